import java.math.BigInteger;
import java.util.ArrayList;
import java.util.Arrays;
import java.util.Comparator;
import java.util.HashMap;
import java.util.List;
import java.util.Map;

/**
 * The document said again by trying everything out, with other means than the class: what the
 * class answers is held against this. Nothing here is quick, and nothing is shared with the class.
 */
final class SlowModel {
    static final int BAD = -1, STATE = -2, FULL = -3, NONE = -9, NO = -1000000;

    private record Token(int place, char kind, int number) { }

    private record Now(int day, int[][] held, Map<String, Integer> found) {
        Now copy() {
            int[][] rows = new int[held.length][];
            for (int i = 0; i < rows.length; i++) {
                rows[i] = held[i].clone();
            }
            return new Now(day, rows, new HashMap<>(found));
        }
    }

    private final StringBuilder text = new StringBuilder();
    private int[] weights = {1, 4, 9, 16};
    private List<int[]> growth = new ArrayList<>();
    private List<Integer> pieces = new ArrayList<>();
    private Now now = new Now(0, new int[0][], new HashMap<>());
    private final List<Now> past = new ArrayList<>();
    private final Now[] images = new Now[2];
    private final List<int[]> shown = new ArrayList<>();
    private final List<int[]> seen = new ArrayList<>();
    private long trace = 0;

    private int people() {
        return now.held.length;
    }

    private boolean noPerson(int p) {
        return p < 0 || p >= people();
    }

    private static boolean noSort(int s) {
        return s < 0 || s > 3;
    }

    private boolean noPair(int p, int q) {
        return noPerson(p) || noPerson(q) || p == q;
    }

    private int weigh(int[] things) {
        int sum = 0;
        for (int s = 0; s < 4; s++) {
            sum += weights[s] * things[s];
        }
        return sum;
    }

    // ---- the shop

    int type(int letter) {
        if (letter < 0 || letter > 255) {
            return BAD;
        }
        if (text.length() == 150) {
            return FULL;
        }
        text.append((char) letter);
        return text.length();
    }

    int clear() {
        int had = text.length();
        text.setLength(0);
        return had;
    }

    /** All TOKENS; '?' is one that never stands anywhere, 'n' a NUMBER, '$' the text's end. */
    private List<Token> tokens() {
        List<Token> list = new ArrayList<>();
        int i = 0;
        while (i < text.length()) {
            char letter = text.charAt(i);
            if (letter == ' ') {
                i++;
            } else if ("spgb;".indexOf(letter) >= 0) {
                list.add(new Token(i, letter, 0));
                i++;
            } else if ("0123456789".indexOf(letter) >= 0) {
                int end = i;
                while (end < text.length() && "0123456789".indexOf(text.charAt(end)) >= 0) {
                    end++;
                }
                String figures = text.substring(i, end);
                BigInteger number = new BigInteger(figures);
                boolean right = number.toString().equals(figures) && number.compareTo(BigInteger.valueOf(99)) <= 0;
                list.add(new Token(i, right ? 'n' : '?', right ? number.intValue() : -1));
                i = end;
            } else {
                list.add(new Token(i, '?', 0));
                i++;
            }
        }
        list.add(new Token(text.length(), '$', 0));
        return list;
    }

    int shop() {
        List<Token> tokens = tokens();
        int[] newWeights = {1, 4, 9, 16};
        List<int[]> newHeld = new ArrayList<>();
        List<int[]> newGrowth = new ArrayList<>();
        List<Integer> newPieces = new ArrayList<>();
        int items = 0;
        int i = 0;
        while (tokens.get(i).kind != '$') {
            Token first = tokens.get(i);
            int[][] bounds;
            if (first.kind == 's') {
                bounds = new int[][] {{0, 3}, {1, 20}};
            } else if (first.kind == 'p' && newHeld.size() < 4) {
                bounds = new int[][] {{0, 9}, {0, 9}, {0, 9}, {0, 9}};
            } else if (first.kind == 'g') {
                bounds = new int[][] {{0, newHeld.size() - 1}, {0, 3}, {0, 3}};
            } else if (first.kind == 'b' && newPieces.size() < 5) {
                bounds = new int[][] {{1, 60}};
            } else {
                return -10 - first.place;
            }
            int[] numbers = new int[bounds.length];
            for (int k = 0; k < bounds.length; k++) {
                Token t = tokens.get(i + 1 + k);
                if (t.kind != 'n' || t.number < bounds[k][0] || t.number > bounds[k][1]) {
                    return -10 - t.place;
                }
                numbers[k] = t.number;
            }
            Token end = tokens.get(i + 1 + bounds.length);
            if (end.kind != ';') {
                return -10 - end.place;
            }
            switch (first.kind) {
                case 's' -> newWeights[numbers[0]] = numbers[1];
                case 'p' -> {
                    newHeld.add(numbers);
                    newGrowth.add(new int[4]);
                }
                case 'g' -> newGrowth.get(numbers[0])[numbers[1]] = numbers[2];
                default -> newPieces.add(numbers[0]);
            }
            items++;
            i += 2 + bounds.length;
        }
        weights = newWeights;
        growth = newGrowth;
        pieces = newPieces;
        now = new Now(0, newHeld.toArray(new int[0][]), new HashMap<>());
        past.clear();
        Arrays.fill(images, null);
        shown.clear();
        seen.clear();
        text.setLength(0);
        return items;
    }

    int holds(int p, int s) {
        return noPerson(p) || noSort(s) ? BAD : now.held[p][s];
    }

    int grows(int p, int s) {
        return noPerson(p) || noSort(s) ? BAD : growth.get(p)[s];
    }

    int weight(int what) {
        if (what < 0 || what > 8) {
            return BAD;
        }
        if (what < 4) {
            return weights[what];
        }
        return what - 4 < pieces.size() ? pieces.get(what - 4) : NONE;
    }

    int heavy(int p) {
        return noPerson(p) ? BAD : weigh(now.held[p]);
    }

    int known(int p, int q) {
        if (noPair(p, q)) {
            return BAD;
        }
        return now.found.getOrDefault(p + "-" + q, NONE);
    }

    int now(int what) {
        return switch (what) {
            case 0 -> now.day;
            case 1 -> now.found.size() / 2;
            case 2 -> ordersLeft(now.found).size();
            case 3 -> worst(now.found);
            case 4 -> next();
            case 5 -> range();
            case 6 -> past.size();
            default -> BAD;
        };
    }

    /** Each order as the place of each one, counted from the heaviest. */
    private List<int[]> allOrders() {
        int n = people();
        List<int[]> list = new ArrayList<>();
        int all = (int) Math.pow(4, n);
        for (int code = 0; code < all; code++) {
            int[] places = new int[n];
            int rest = code;
            for (int i = 0; i < n; i++) {
                places[i] = rest % 4;
                rest /= 4;
            }
            int greatest = Arrays.stream(places).max().orElse(-1);
            if (Arrays.stream(places).distinct().count() == greatest + 1) {
                list.add(places);
            }
        }
        return list;
    }

    private List<int[]> ordersLeft(Map<String, Integer> found) {
        List<int[]> left = new ArrayList<>();
        for (int[] places : allOrders()) {
            boolean fits = true;
            for (int p = 0; p < people(); p++) {
                for (int q = 0; q < people(); q++) {
                    Integer f = found.get(p + "-" + q);
                    int is = places[p] < places[q] ? 1 : places[p] > places[q] ? 2 : 0;
                    fits &= f == null || f == is;
                }
            }
            if (fits) {
                left.add(places);
            }
        }
        return left;
    }

    private static final Map<String, Integer> WORST = new HashMap<>();

    private String keyOf(Map<String, Integer> found) {
        StringBuilder key = new StringBuilder();
        for (int p = 0; p < people(); p++) {
            for (int q = p + 1; q < people(); q++) {
                Integer f = found.get(p + "-" + q);
                key.append(f == null ? "." : f.toString());
            }
        }
        return people() + ":" + key;
    }

    private int worst(Map<String, Integer> found) {
        Integer stands = WORST.get(keyOf(found));
        if (stands != null) {
            return stands;
        }
        int least = 0;
        if (ordersLeft(found).size() > 1) {
            least = Integer.MAX_VALUE;
            for (int p = 0; p < people(); p++) {
                for (int q = p + 1; q < people(); q++) {
                    if (!found.containsKey(p + "-" + q)) {
                        least = Math.min(least, 1 + worstBehind(found, p, q));
                    }
                }
            }
        }
        WORST.put(keyOf(found), least);
        return least;
    }

    private int worstBehind(Map<String, Integer> found, int p, int q) {
        int most = 0;
        for (int f = 0; f < 3; f++) {
            Map<String, Integer> then = new HashMap<>(found);
            find(then, p, q, f);
            most = Math.max(most, worst(then));
        }
        return most;
    }

    private static void find(Map<String, Integer> found, int p, int q, int f) {
        found.put(p + "-" + q, f);
        found.put(q + "-" + p, f == 0 ? 0 : 3 - f);
    }

    private int next() {
        if (worst(now.found) == 0) {
            return NONE;
        }
        int best = NONE;
        int least = Integer.MAX_VALUE;
        for (int p = 0; p < people(); p++) {
            for (int q = p + 1; q < people(); q++) {
                if (!now.found.containsKey(p + "-" + q) && worstBehind(now.found, p, q) < least) {
                    least = worstBehind(now.found, p, q);
                    best = 10 * p + q;
                }
            }
        }
        return best;
    }

    private int range() {
        int v = 0;
        while (v < 300 && brass(v + 1, 0) != NONE) {
            v++;
        }
        return v;
    }

    // ---- what is done

    private void remember() {
        past.add(now.copy());
        if (past.size() > 10) {
            past.remove(0);
        }
    }

    int tells(int p, int q, int s) {
        if (noPair(p, q) || noSort(s)) {
            return BAD;
        }
        if (now.held[p][s] == 0) {
            return STATE;
        }
        remember();
        now.held[p][s]--;
        if (s > 0 && now.held[q][s - 1] < 9) {
            now.held[q][s - 1]++;
        }
        return heavy(p);
    }

    int keeps(int p, int s) {
        if (noPerson(p) || noSort(s)) {
            return BAD;
        }
        if (now.held[p][s] == 9) {
            return STATE;
        }
        remember();
        return ++now.held[p][s];
    }

    private static int[][] grown(int[][] held, List<int[]> growth) {
        int[][] then = new int[held.length][4];
        for (int p = 0; p < held.length; p++) {
            for (int s = 0; s < 4; s++) {
                then[p][s] = Math.min(9, held[p][s] + growth.get(p)[s]);
            }
        }
        return then;
    }

    int day() {
        if (now.day == 999) {
            return STATE;
        }
        remember();
        now = new Now(now.day + 1, grown(now.held, growth), now.found);
        return now.day;
    }

    int weighs(int p, int q) {
        if (noPair(p, q)) {
            return BAD;
        }
        remember();
        int difference = heavy(p) - heavy(q);
        int f = difference > 0 ? 1 : difference < 0 ? 2 : 0;
        find(now.found, p, q, f);
        return f;
    }

    int forgets() {
        remember();
        int were = now.found.size() / 2;
        now.found.clear();
        return were;
    }

    int undo() {
        if (past.isEmpty()) {
            return STATE;
        }
        now = past.remove(past.size() - 1);
        return past.size();
    }

    // ---- two on the scales

    int beam(int p, int q) {
        return noPair(p, q) ? NO : heavy(p) - heavy(q);
    }

    private static int things(int[] a) {
        return a[0] + a[1] + a[2] + a[3];
    }

    /** For each heaviness that can be left the first of the shortest ways to come there. */
    private Map<Integer, int[]> waysToShed(int p) {
        Map<Integer, int[]> best = new HashMap<>();
        int[] held = now.held[p];
        int all = weigh(held);
        for (int a = 0; a <= held[0]; a++) {
            for (int b = 0; b <= held[1]; b++) {
                for (int c = 0; c <= held[2]; c++) {
                    for (int d = 0; d <= held[3]; d++) {
                        int[] way = {a, b, c, d};
                        best.merge(all - weigh(way), way, (had, is) -> things(is) < things(had) ? is : had);
                    }
                }
            }
        }
        return best;
    }

    int level(int p, int q, int what) {
        if (noPair(p, q) || what < 0 || what > 9) {
            return BAD;
        }
        Map<Integer, int[]> first = waysToShed(p);
        Map<Integer, int[]> second = waysToShed(q);
        int then = first.keySet().stream().filter(second::containsKey).min(
            Comparator.<Integer>comparingInt(h -> things(first.get(h)) + things(second.get(h)))
                .thenComparing(Comparator.reverseOrder())).orElseThrow();
        if (what == 0) {
            return things(first.get(then)) + things(second.get(then));
        }
        if (what == 1) {
            return then;
        }
        return what < 6 ? first.get(then)[what - 2] : second.get(then)[what - 6];
    }

    int when(int p, int q) {
        if (noPair(p, q)) {
            return BAD;
        }
        int[][] held = now.held;
        for (int ahead = 0; ahead <= 99; ahead++) {
            if (weigh(held[p]) > weigh(held[q])) {
                return now.day + ahead;
            }
            held = grown(held, growth);
        }
        return NONE;
    }

    long odds(int p, int q, int s, int x, int what) {
        if (noPair(p, q) || noSort(s) || x < 0 || x > 10 || what < 0 || what > 1) {
            return BAD;
        }
        int n = now.held[p][s];
        BigInteger upper = BigInteger.ZERO;
        for (int said = 0; said < 1 << n; said++) {
            int k = Integer.bitCount(said);
            if (heavy(p) - k * weights[s] < heavy(q)) {
                upper = upper.add(BigInteger.valueOf(x).pow(k).multiply(BigInteger.valueOf(10 - x).pow(n - k)));
            }
        }
        BigInteger lower = BigInteger.TEN.pow(n);
        BigInteger common = upper.gcd(lower);
        return (what == 0 ? upper : lower).divide(common).longValueExact();
    }

    // ---- brass

    int brass(int v, int what) {
        if (v < 0 || v > 300 || what < 0 || what > 2) {
            return BAD;
        }
        int[] best = null;
        int all = (int) Math.pow(3, pieces.size());
        for (int code = 0; code < all; code++) {
            int[] way = new int[3];
            int sum = 0;
            int rest = code;
            for (int i = 0; i < pieces.size(); i++) {
                int pan = rest % 3;
                rest /= 3;
                if (pan > 0) {
                    way[0]++;
                    way[pan] |= 1 << i;
                    sum += pan == 1 ? pieces.get(i) : -pieces.get(i);
                }
            }
            if (sum == v && (best == null || Arrays.compare(way, best) < 0)) {
                best = way;
            }
        }
        return best == null ? NONE : best[what];
    }

    // ---- what was shown, seen

    int shows(int p, int brass, int how) {
        if (noPerson(p) || brass < 0 || brass > 720 || how < 0 || how > 2) {
            return BAD;
        }
        if (shown.size() == 6) {
            return FULL;
        }
        shown.add(new int[] {p, brass, how});
        return shown.size();
    }

    int can(int p, int what) {
        if (noPerson(p) || what < 0 || what > 2) {
            return BAD;
        }
        int ways = 0;
        int least = Integer.MAX_VALUE;
        int greatest = -1;
        for (int code = 0; code < 10000; code++) {
            int h = weigh(new int[] {code / 1000, code / 100 % 10, code / 10 % 10, code % 10});
            boolean fits = true;
            for (int[] r : shown) {
                int is = h > r[1] ? 1 : h < r[1] ? 2 : 0;
                fits &= r[0] != p || is == r[2];
            }
            if (fits) {
                ways++;
                least = Math.min(least, h);
                greatest = Math.max(greatest, h);
            }
        }
        if (what == 0) {
            return ways;
        }
        return ways == 0 ? NONE : what == 1 ? least : greatest;
    }

    int saw(int p, int v) {
        if (noPerson(p) || v < 0 || v > 240) {
            return BAD;
        }
        if (seen.size() == 6) {
            return FULL;
        }
        seen.add(new int[] {p, v});
        return seen.size();
    }

    int laws(int p, int what) {
        if (noPerson(p) || what < 0 || what > 1) {
            return BAD;
        }
        int ways = 0;
        int first = NONE;
        for (int code = 0; code <= 3333; code++) {
            int[] law = {code / 1000, code / 100 % 10, code / 10 % 10, code % 10};
            boolean fits = Arrays.stream(law).allMatch(g -> g <= 3);
            for (int[] r : seen) {
                fits &= r[0] != p || r[1] == weigh(law);
            }
            if (fits) {
                ways++;
                first = first == NONE ? code : first;
            }
        }
        return what == 0 ? ways : first;
    }

    int clean() {
        int were = shown.size() + seen.size();
        shown.clear();
        seen.clear();
        return were;
    }

    // ---- kinds, images

    private static final int[] ABOVE = {-1, 0, 0, 1, 2, 0};

    private int rateAs(int kind, int p) {
        trace += (long) Math.pow(10, kind);
        int up = ABOVE[kind] < 0 ? 0 : rateAs(ABOVE[kind], p);
        return switch (kind) {
            case 0 -> heavy(p);
            case 1 -> up + things(now.held[p]);
            case 2 -> up - things(growth.get(p));
            case 3 -> 2 * up;
            case 4 -> up + p;
            default -> up + now.day;
        };
    }

    int rate(int kind, int p) {
        return kind < 0 || kind > 5 || noPerson(p) ? NO : rateAs(kind, p);
    }

    int keep(int image) {
        if (image < 0 || image > 1) {
            return BAD;
        }
        images[image] = now.copy();
        return now.day;
    }

    int back(int image) {
        if (image < 0 || image > 1) {
            return BAD;
        }
        if (images[image] == null) {
            return STATE;
        }
        now = images[image].copy();
        past.clear();
        return now.day;
    }

    int count(int what) {
        return switch (what) {
            case 0 -> people();
            case 1 -> pieces.size();
            case 2 -> shown.size();
            case 3 -> seen.size();
            case 4 -> text.length();
            default -> BAD;
        };
    }

    long trace() {
        return trace;
    }
}
