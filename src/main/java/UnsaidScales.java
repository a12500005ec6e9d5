import java.util.Arrays;

/** Scales for what was left unsaid. Words in capitals are those of the document, shared/DOC.md. */
public final class UnsaidScales {
    public static final int BAD = -1, STATE = -2, FULL = -3, NONE = -9;
    public static final int NO = -1000000;

    private static final int SORTS = 4;
    private static final int[] FIRST_WEIGHTS = {1, 4, 9, 16};
    private static final int MOST_WEIGHT = 20;
    private static final int MOST_PEOPLE = 4;
    private static final int MOST_HELD = 9;
    private static final int MOST_GROWN = 3;
    private static final int MOST_HEAVINESS = SORTS * MOST_HELD * MOST_WEIGHT;
    private static final int MOST_GAIN = SORTS * MOST_GROWN * MOST_WEIGHT;
    private static final int MOST_PIECES = 5;
    private static final int MOST_PIECE = 60;
    private static final int MOST_BRASS = MOST_PIECES * MOST_PIECE;
    private static final int MOST_LETTERS = 150;
    private static final int LAST_DAY = 999;
    private static final int DAYS_AHEAD = 99;
    private static final int MOST_UNDONE = 10;
    private static final int MOST_RECORDS = 6;
    private static final int IMAGES = 2;
    private static final int TENTHS = 10;

    private static final int BRASS_FROM = SORTS;
    private static final int FIRST_SAYS_FROM = 2;
    private static final int SECOND_SAYS_FROM = FIRST_SAYS_FROM + SORTS;

    // What is known of a pair stands in two bits; 0 must be "not known", as OrderTable counts on it.
    private static final int PAIR_BITS = 2;
    private static final int PAIR_MASK = 3;
    private static final int MOST_PAIRS = MOST_PEOPLE * (MOST_PEOPLE - 1) / 2;
    private static final int UNKNOWN = 0;
    private static final int LOWER_HEAVIER = 1;
    private static final int HIGHER_HEAVIER = 2;
    private static final int ALIKE = 3;

    private final TextReader text = new TextReader();
    private final ToldShop told = new ToldShop();
    private final ToldShop draft = new ToldShop();
    private final Moment present = new Moment();
    private final History history = new History();
    private final Moment[] images = {new Moment(), new Moment()};
    private final boolean[] kept = new boolean[IMAGES];
    private final OrderTable orders = new OrderTable();
    private final Drawer drawer = new Drawer();
    private final LeastSaid leastSaid = new LeastSaid();
    private final Evidence evidence = new Evidence();
    private long traced;

    public UnsaidScales() {
        told.makeEmpty();
        beginAnew();
    }

    // ---- the shop

    public int type(int letter) {
        if (!within(letter, 0, 255)) {
            return BAD;
        }
        return text.append((char) letter) ? text.length : FULL;
    }

    public int clear() {
        int had = text.length;
        text.length = 0;
        return had;
    }

    public int shop() {
        int items = text.readInto(draft);
        if (text.hasFault()) {
            return -10 - text.fault;
        }
        told.copyFrom(draft);
        text.length = 0;
        beginAnew();
        return items;
    }

    public int holds(int p, int s) {
        return isPerson(p) && isSort(s) ? present.held[p * SORTS + s] : BAD;
    }

    public int grows(int p, int s) {
        return isPerson(p) && isSort(s) ? told.growth[p * SORTS + s] : BAD;
    }

    public int weight(int what) {
        if (isSort(what)) {
            return told.weights[what];
        }
        if (!within(what, BRASS_FROM, BRASS_FROM + MOST_PIECES - 1)) {
            return BAD;
        }
        int piece = what - BRASS_FROM;
        return piece < told.pieceCount ? told.pieces[piece] : NONE;
    }

    public int heavy(int p) {
        return isPerson(p) ? heavinessOf(p) : BAD;
    }

    public int known(int p, int q) {
        return isPair(p, q) ? knownOf(p, q) : BAD;
    }

    public int now(int what) {
        switch (what) {
            case 0:
                return present.day;
            case 1:
                return knownPairs();
            case 2:
            case 3:
            case 4:
                return planned(what);
            case 5:
                return drawer.range();
            case 6:
                return history.size;
            default:
                return BAD;
        }
    }

    // ---- what is done

    public int tells(int p, int q, int s) {
        if (!isPair(p, q) || !isSort(s)) {
            return BAD;
        }
        int thing = p * SORTS + s;
        if (present.held[thing] == 0) {
            return STATE;
        }
        history.push(present);
        present.held[thing]--;
        if (s > 0) {
            present.add(q * SORTS + s - 1, 1);
        }
        return heavinessOf(p);
    }

    public int keeps(int p, int s) {
        if (!isPerson(p) || !isSort(s)) {
            return BAD;
        }
        int thing = p * SORTS + s;
        if (present.held[thing] >= MOST_HELD) {
            return STATE;
        }
        history.push(present);
        present.add(thing, 1);
        return present.held[thing];
    }

    public int day() {
        if (present.day >= LAST_DAY) {
            return STATE;
        }
        history.push(present);
        for (int thing = 0; thing < told.people * SORTS; thing++) {
            present.add(thing, told.growth[thing]);
        }
        present.day++;
        return present.day;
    }

    public int weighs(int p, int q) {
        if (!isPair(p, q)) {
            return BAD;
        }
        history.push(present);
        present.pairs = withFound(present.pairs, pairOf(p, q), compareLower(p, q));
        return knownOf(p, q);
    }

    public int forgets() {
        int were = knownPairs();
        history.push(present);
        present.pairs = 0;
        return were;
    }

    public int undo() {
        if (history.size == 0) {
            return STATE;
        }
        history.popInto(present);
        return history.size;
    }

    // ---- two on the scales

    public int beam(int p, int q) {
        return isPair(p, q) ? heavinessOf(p) - heavinessOf(q) : NO;
    }

    public int level(int p, int q, int what) {
        if (!isPair(p, q) || !within(what, 0, SECOND_SAYS_FROM + SORTS - 1)) {
            return BAD;
        }
        leastSaid.find(told.weights, present.held, p, q);
        if (what == 0) {
            return leastSaid.things;
        }
        if (what == 1) {
            return leastSaid.heaviness;
        }
        return what < SECOND_SAYS_FROM
            ? leastSaid.firstSays(told.weights, present.held, p, what - FIRST_SAYS_FROM)
            : leastSaid.secondSays(told.weights, present.held, q, what - SECOND_SAYS_FROM);
    }

    public int when(int p, int q) {
        if (!isPair(p, q)) {
            return BAD;
        }
        for (int ahead = 0; ahead <= DAYS_AHEAD; ahead++) {
            if (heavinessAhead(p, ahead) > heavinessAhead(q, ahead)) {
                return present.day + ahead;
            }
        }
        return NONE;
    }

    public long odds(int p, int q, int s, int x, int what) {
        if (!isPair(p, q) || !isSort(s) || !within(x, 0, TENTHS) || !within(what, 0, 1)) {
            return BAD;
        }
        long upper = lighterWays(p, q, s, x);
        long lower = power(TENTHS, present.held[p * SORTS + s]);
        long common = commonDivisor(upper, lower);
        if (common == 0) {
            return BAD;
        }
        return what == 0 ? upper / common : lower / common;
    }

    // ---- brass

    public int brass(int v, int what) {
        if (!within(v, 0, MOST_BRASS) || !within(what, 0, 2)) {
            return BAD;
        }
        if (!drawer.canWeigh(v)) {
            return NONE;
        }
        if (what == 0) {
            return drawer.fewestPieces(v);
        }
        return what == 1 ? drawer.heavierPan(v) : drawer.otherPan(v);
    }

    // ---- what was shown, seen

    public int shows(int p, int brass, int how) {
        if (!isPerson(p) || !within(brass, 0, MOST_HEAVINESS) || !within(how, 0, 2)) {
            return BAD;
        }
        return evidence.addShown(p, brass, how) ? evidence.shown : FULL;
    }

    public int can(int p, int what) {
        if (!isPerson(p) || !within(what, 0, 2)) {
            return BAD;
        }
        evidence.prepareWays(told.weights);
        int low = evidence.lowestOf(p);
        int high = evidence.highestOf(p);
        if (what == 0) {
            return evidence.waysBetween(low, high);
        }
        return what == 1 ? evidence.leastBetween(low, high) : evidence.greatestBetween(low, high);
    }

    public int saw(int p, int v) {
        if (!isPerson(p) || !within(v, 0, MOST_GAIN)) {
            return BAD;
        }
        return evidence.addSeen(p, v) ? evidence.seen : FULL;
    }

    public int laws(int p, int what) {
        if (!isPerson(p) || !within(what, 0, 1)) {
            return BAD;
        }
        return what == 0 ? evidence.lawsOf(p, told.weights) : evidence.firstLawOf(p, told.weights);
    }

    public int clean() {
        int were = evidence.shown + evidence.seen;
        evidence.dropRecords();
        return were;
    }

    // ---- kinds, images

    public int rate(int kind, int p) {
        if (!isPerson(p)) {
            return NO;
        }
        switch (kind) {
            case 0:
                return asPerson(p);
            case 1:
                return asBride(p);
            case 2:
                return asPartner(p);
            case 3:
                return asBrother(p);
            case 4:
                return asBankrupt(p);
            case 5:
                return asStranger(p);
            default:
                return NO;
        }
    }

    public int keep(int image) {
        if (!within(image, 0, IMAGES - 1)) {
            return BAD;
        }
        images[image].copyFrom(present);
        kept[image] = true;
        return present.day;
    }

    public int back(int image) {
        if (!within(image, 0, IMAGES - 1)) {
            return BAD;
        }
        if (!kept[image]) {
            return STATE;
        }
        present.copyFrom(images[image]);
        history.size = 0;
        return present.day;
    }

    public int count(int what) {
        switch (what) {
            case 0:
                return told.people;
            case 1:
                return told.pieceCount;
            case 2:
                return evidence.shown;
            case 3:
                return evidence.seen;
            case 4:
                return text.length;
            default:
                return BAD;
        }
    }

    public long trace() {
        return traced;
    }

    // ---- what the calls above share

    private void beginAnew() {
        present.begin(told);
        history.size = 0;
        for (int image = 0; image < IMAGES; image++) {
            kept[image] = false;
        }
        drawer.layOut(told);
        evidence.begin();
    }

    private static boolean within(int number, int least, int most) {
        return number >= least && number <= most;
    }

    private static boolean isSort(int s) {
        return within(s, 0, SORTS - 1);
    }

    private boolean isPerson(int p) {
        return within(p, 0, told.people - 1);
    }

    private boolean isPair(int p, int q) {
        return isPerson(p) && isPerson(q) && p != q;
    }

    private int heavinessOf(int p) {
        return heavinessAhead(p, 0);
    }

    private int heavinessAhead(int p, int days) {
        int sum = 0;
        for (int s = 0; s < SORTS; s++) {
            int thing = p * SORTS + s;
            int held = Math.min(MOST_HELD, present.held[thing] + told.growth[thing] * days);
            sum += told.weights[s] * held;
        }
        return sum;
    }

    // The pairs of the first people come first, so that fewer people need fewer bits.
    private static int pairOf(int p, int q) {
        int lower = Math.min(p, q);
        int higher = Math.max(p, q);
        return higher * (higher - 1) / 2 + lower;
    }

    private static int foundOf(int pairs, int pair) {
        return (pairs >> (PAIR_BITS * pair)) & PAIR_MASK;
    }

    private static int withFound(int pairs, int pair, int found) {
        int shift = PAIR_BITS * pair;
        return (pairs & ~(PAIR_MASK << shift)) | (found << shift);
    }

    private int compareLower(int p, int q) {
        int difference = heavinessOf(Math.min(p, q)) - heavinessOf(Math.max(p, q));
        if (difference == 0) {
            return ALIKE;
        }
        return difference > 0 ? LOWER_HEAVIER : HIGHER_HEAVIER;
    }

    private int knownOf(int p, int q) {
        int found = foundOf(present.pairs, pairOf(p, q));
        if (found == UNKNOWN) {
            return NONE;
        }
        if (found == ALIKE) {
            return 0;
        }
        return (found == LOWER_HEAVIER) == (p < q) ? 1 : 2;
    }

    private int knownPairs() {
        int sum = 0;
        for (int pair = 0; pair < MOST_PAIRS; pair++) {
            if (foundOf(present.pairs, pair) != UNKNOWN) {
                sum++;
            }
        }
        return sum;
    }

    private int planned(int what) {
        orders.prepare(told.people);
        if (what == 2) {
            return orders.ordersLeft(present.pairs);
        }
        return what == 3 ? orders.worstOf(present.pairs) : orders.nextPair(present.pairs);
    }

    /** In how many of 10 to the number of his things ways the first one is lighter then. */
    private long lighterWays(int p, int q, int s, int x) {
        int things = present.held[p * SORTS + s];
        int difference = heavinessOf(p) - heavinessOf(q);
        long choices = 1;
        long sum = 0;
        for (int said = 0; said <= things; said++) {
            if (difference - said * told.weights[s] < 0) {
                sum += choices * power(x, said) * power(TENTHS - x, things - said);
            }
            choices = choices * (things - said) / (said + 1);
        }
        return sum;
    }

    private static long power(int base, int exponent) {
        long product = 1;
        for (int i = 0; i < exponent; i++) {
            product *= base;
        }
        return product;
    }

    // Both numbers are at most 10 to the 9: Euclid needs far fewer steps than the bound.
    private static long commonDivisor(long a, long b) {
        long greater = a;
        long smaller = b;
        for (int step = 0; step < 200 && smaller != 0; step++) {
            long rest = greater % smaller;
            greater = smaller;
            smaller = rest;
        }
        return greater;
    }

    private int asPerson(int p) {
        traced += 1;
        return heavinessOf(p);
    }

    private int asBride(int p) {
        traced += 10;
        return asPerson(p) + sumOfSorts(present.held, p);
    }

    private int asPartner(int p) {
        traced += 100;
        return asPerson(p) - sumOfSorts(told.growth, p);
    }

    private int asBrother(int p) {
        traced += 1000;
        return 2 * asBride(p);
    }

    private int asBankrupt(int p) {
        traced += 10000;
        return asPartner(p) + p;
    }

    private int asStranger(int p) {
        traced += 100000;
        return asPerson(p) + present.day;
    }

    private static int sumOfSorts(int[] rows, int p) {
        int sum = 0;
        for (int s = 0; s < SORTS; s++) {
            sum += rows[p * SORTS + s];
        }
        return sum;
    }

    /** What THE TEXT told; rows of PEOPLE stand one behind the other, a cell for each SORT. */
    private static final class ToldShop {
        final int[] weights = new int[SORTS];
        final int[] firstHeld = new int[MOST_PEOPLE * SORTS];
        final int[] growth = new int[MOST_PEOPLE * SORTS];
        final int[] pieces = new int[MOST_PIECES];
        int people;
        int pieceCount;

        void makeEmpty() {
            System.arraycopy(FIRST_WEIGHTS, 0, weights, 0, SORTS);
            Arrays.fill(firstHeld, 0);
            Arrays.fill(growth, 0);
            Arrays.fill(pieces, 0);
            people = 0;
            pieceCount = 0;
        }

        void copyFrom(ToldShop other) {
            System.arraycopy(other.weights, 0, weights, 0, weights.length);
            System.arraycopy(other.firstHeld, 0, firstHeld, 0, firstHeld.length);
            System.arraycopy(other.growth, 0, growth, 0, growth.length);
            System.arraycopy(other.pieces, 0, pieces, 0, pieces.length);
            people = other.people;
            pieceCount = other.pieceCount;
        }
    }

    /** THE TEXT, and how it is read: behind a FAULT nothing more is read or written. */
    private static final class TextReader {
        private static final int NO_FAULT = -1;
        private static final int LONGEST_NUMBER = 2;

        private final char[] letters = new char[MOST_LETTERS];
        private int length;
        private int at;
        private int fault = NO_FAULT;

        boolean append(char letter) {
            if (length >= MOST_LETTERS) {
                return false;
            }
            letters[length] = letter;
            length++;
            return true;
        }

        boolean hasFault() {
            return fault != NO_FAULT;
        }

        int readInto(ToldShop shop) {
            shop.makeEmpty();
            at = 0;
            fault = NO_FAULT;
            int items = 0;
            skipBlanks();
            while (items < MOST_LETTERS && at < length && !hasFault()) {
                readItem(shop);
                items++;
                skipBlanks();
            }
            return items;
        }

        private void readItem(ToldShop shop) {
            char first = letters[at];
            boolean canStand = first == 's' || first == 'g'
                || first == 'p' && shop.people < MOST_PEOPLE
                || first == 'b' && shop.pieceCount < MOST_PIECES;
            if (!canStand) {
                fault = at;
                return;
            }
            at++;
            if (first == 's') {
                readWeight(shop);
            } else if (first == 'p') {
                readPerson(shop);
            } else if (first == 'g') {
                readGrowth(shop);
            } else {
                readPiece(shop);
            }
        }

        private void readWeight(ToldShop shop) {
            int sort = readNumber(0, SORTS - 1);
            int weight = readNumber(1, MOST_WEIGHT);
            readEnd();
            if (!hasFault()) {
                shop.weights[sort] = weight;
            }
        }

        private void readPerson(ToldShop shop) {
            for (int s = 0; s < SORTS; s++) {
                int held = readNumber(0, MOST_HELD);
                if (!hasFault()) {
                    shop.firstHeld[shop.people * SORTS + s] = held;
                }
            }
            readEnd();
            if (!hasFault()) {
                shop.people++;
            }
        }

        private void readGrowth(ToldShop shop) {
            int person = readNumber(0, shop.people - 1);
            int sort = readNumber(0, SORTS - 1);
            int grown = readNumber(0, MOST_GROWN);
            readEnd();
            if (!hasFault()) {
                shop.growth[person * SORTS + sort] = grown;
            }
        }

        private void readPiece(ToldShop shop) {
            int weight = readNumber(1, MOST_PIECE);
            readEnd();
            if (!hasFault()) {
                shop.pieces[shop.pieceCount] = weight;
                shop.pieceCount++;
            }
        }

        /** A NUMBER from least to most; what comes back behind a FAULT is of no use. */
        private int readNumber(int least, int most) {
            if (hasFault()) {
                return least;
            }
            skipBlanks();
            int from = at;
            int number = 0;
            while (at < length && isFigure(letters[at])) {
                // Longer runs are a FAULT whatever they say: they must only not overflow.
                if (at - from < LONGEST_NUMBER) {
                    number = number * 10 + (letters[at] - '0');
                }
                at++;
            }
            int figures = at - from;
            boolean wellFormed = figures == 1
                || figures == LONGEST_NUMBER && letters[from] != '0';
            if (!wellFormed || !within(number, least, most)) {
                fault = from;
            }
            return number;
        }

        private void readEnd() {
            if (hasFault()) {
                return;
            }
            skipBlanks();
            if (at < length && letters[at] == ';') {
                at++;
            } else {
                fault = at;
            }
        }

        private void skipBlanks() {
            while (at < length && letters[at] == ' ') {
                at++;
            }
        }

        private static boolean isFigure(char letter) {
            return letter >= '0' && letter <= '9';
        }
    }

    /** NOW, as it is, as it was, or as an IMAGE keeps it. */
    private static final class Moment {
        final int[] held = new int[MOST_PEOPLE * SORTS];
        int day;
        int pairs;

        void begin(ToldShop shop) {
            System.arraycopy(shop.firstHeld, 0, held, 0, held.length);
            day = 0;
            pairs = 0;
        }

        void copyFrom(Moment other) {
            System.arraycopy(other.held, 0, held, 0, held.length);
            day = other.day;
            pairs = other.pairs;
        }

        void add(int thing, int more) {
            held[thing] = Math.min(MOST_HELD, held[thing] + more);
        }
    }

    /** How it was ahead of the latest things done, in a ring in which the oldest gives way. */
    private static final class History {
        private final Moment[] ring = new Moment[MOST_UNDONE];
        private int next;
        private int size;

        History() {
            for (int i = 0; i < MOST_UNDONE; i++) {
                ring[i] = new Moment();
            }
        }

        void push(Moment moment) {
            ring[next].copyFrom(moment);
            next = (next + 1) % MOST_UNDONE;
            size = Math.min(MOST_UNDONE, size + 1);
        }

        void popInto(Moment moment) {
            if (size > 0) {
                next = (next + MOST_UNDONE - 1) % MOST_UNDONE;
                size--;
                moment.copyFrom(ring[next]);
            }
        }
    }

    /** ORDERS and WORST of all that can be known of the pairs of so many PEOPLE. */
    private static final class OrderTable {
        private static final int WORST_BITS = 3;
        private static final int WORST_MASK = 7;

        private final short[] plans = new short[1 << (PAIR_BITS * MOST_PAIRS)];
        private final int[] heavierOnes = new int[MOST_PEOPLE];
        private int people = -1;
        private int pairCount;

        void prepare(int number) {
            if (people == number) {
                return;
            }
            people = number;
            pairCount = number * (number - 1) / 2;
            // What is found of one pair more makes the number greater: from the greatest down,
            // all that a plan is made of stands already.
            for (int pairs = (1 << (PAIR_BITS * pairCount)) - 1; pairs >= 0; pairs--) {
                int left = countOrders(pairs);
                int worst = left <= 1 ? 0 : 1 + leastBehind(pairs);
                plans[pairs] = (short) ((left << WORST_BITS) | worst);
            }
        }

        int ordersLeft(int pairs) {
            return plans[pairs] >> WORST_BITS;
        }

        int worstOf(int pairs) {
            return plans[pairs] & WORST_MASK;
        }

        int nextPair(int pairs) {
            int worst = worstOf(pairs);
            if (worst == 0) {
                return NONE;
            }
            for (int lower = 0; lower < people; lower++) {
                for (int higher = lower + 1; higher < people; higher++) {
                    int pair = pairOf(lower, higher);
                    if (foundOf(pairs, pair) == UNKNOWN && worstBehind(pairs, pair) == worst - 1) {
                        return 10 * lower + higher;
                    }
                }
            }
            return NONE;
        }

        private int countOrders(int pairs) {
            for (int pair = 0; pair < pairCount; pair++) {
                if (foundOf(pairs, pair) == UNKNOWN) {
                    return ordersLeft(withFound(pairs, pair, LOWER_HEAVIER))
                        + ordersLeft(withFound(pairs, pair, HIGHER_HEAVIER))
                        + ordersLeft(withFound(pairs, pair, ALIKE));
                }
            }
            return isOrder(pairs) ? 1 : 0;
        }

        private int leastBehind(int pairs) {
            int least = WORST_MASK;
            for (int pair = 0; pair < pairCount; pair++) {
                if (foundOf(pairs, pair) == UNKNOWN) {
                    least = Math.min(least, worstBehind(pairs, pair));
                }
            }
            return least;
        }

        private int worstBehind(int pairs, int pair) {
            int first = worstOf(withFound(pairs, pair, LOWER_HEAVIER));
            int second = worstOf(withFound(pairs, pair, HIGHER_HEAVIER));
            int level = worstOf(withFound(pairs, pair, ALIKE));
            return Math.max(first, Math.max(second, level));
        }

        // Where all pairs are known, it is an order if how many are heavier than each tells it all.
        // These loops go through the pairs as pairOf() numbers them.
        private boolean isOrder(int pairs) {
            countHeavierOnes(pairs);
            int pair = 0;
            for (int higher = 1; higher < people; higher++) {
                for (int lower = 0; lower < higher; lower++) {
                    int due = dueFinding(heavierOnes[lower], heavierOnes[higher]);
                    if (foundOf(pairs, pair) != due) {
                        return false;
                    }
                    pair++;
                }
            }
            return true;
        }

        private void countHeavierOnes(int pairs) {
            Arrays.fill(heavierOnes, 0);
            int pair = 0;
            for (int higher = 1; higher < people; higher++) {
                for (int lower = 0; lower < higher; lower++) {
                    int found = foundOf(pairs, pair);
                    if (found == LOWER_HEAVIER) {
                        heavierOnes[higher]++;
                    } else if (found == HIGHER_HEAVIER) {
                        heavierOnes[lower]++;
                    }
                    pair++;
                }
            }
        }

        private static int dueFinding(int heavierThanLower, int heavierThanHigher) {
            if (heavierThanLower == heavierThanHigher) {
                return ALIKE;
            }
            return heavierThanLower < heavierThanHigher ? LOWER_HEAVIER : HIGHER_HEAVIER;
        }
    }

    /** BRASS, and the best way to weigh each v: bits of the heavier pan above those of the other. */
    private static final class Drawer {
        private static final int PANS = 1 << MOST_PIECES;

        private final int[] panWeights = new int[PANS];
        private final int[] ways = new int[MOST_BRASS + 1];

        void layOut(ToldShop shop) {
            int pans = 1 << shop.pieceCount;
            for (int pan = 0; pan < pans; pan++) {
                panWeights[pan] = weigh(pan, shop);
            }
            Arrays.fill(ways, NONE);
            // Upwards, as of several ways with as few pieces the first is to stay.
            for (int heavier = 0; heavier < pans; heavier++) {
                for (int other = 0; other < pans; other++) {
                    if ((heavier & other) == 0) {
                        offer(heavier, other);
                    }
                }
            }
        }

        boolean canWeigh(int v) {
            return ways[v] != NONE;
        }

        int fewestPieces(int v) {
            return Integer.bitCount(ways[v]);
        }

        int heavierPan(int v) {
            return ways[v] >> MOST_PIECES;
        }

        int otherPan(int v) {
            return ways[v] & (PANS - 1);
        }

        int range() {
            int v = 0;
            while (v < MOST_BRASS && canWeigh(v + 1)) {
                v++;
            }
            return v;
        }

        private void offer(int heavier, int other) {
            int v = panWeights[heavier] - panWeights[other];
            if (!within(v, 0, MOST_BRASS)) {
                return;
            }
            int way = (heavier << MOST_PIECES) | other;
            if (!canWeigh(v) || Integer.bitCount(way) < fewestPieces(v)) {
                ways[v] = way;
            }
        }

        private static int weigh(int pan, ToldShop shop) {
            int sum = 0;
            for (int piece = 0; piece < shop.pieceCount; piece++) {
                if (((pan >> piece) & 1) == 1) {
                    sum += shop.pieces[piece];
                }
            }
            return sum;
        }
    }

    /** LEVEL of two PEOPLE. */
    private static final class LeastSaid {
        // Above all that two can say, and two of it are still a number.
        private static final int TOO_MANY = 1000;

        private final int[] firstFewest = new int[MOST_HEAVINESS + 1];
        private final int[] secondFewest = new int[MOST_HEAVINESS + 1];
        private int things;
        private int heaviness;
        private int firstSheds;
        private int secondSheds;

        void find(int[] weights, int[] held, int p, int q) {
            int first = countFewest(firstFewest, weights, held, p);
            int second = countFewest(secondFewest, weights, held, q);
            things = TOO_MANY;
            heaviness = 0;
            // Downwards, as of several with as few things the greatest HEAVINESS is to stay.
            for (int then = Math.min(first, second); then >= 0; then--) {
                int sum = firstFewest[first - then] + secondFewest[second - then];
                if (sum < things) {
                    things = sum;
                    heaviness = then;
                }
            }
            firstSheds = first - heaviness;
            secondSheds = second - heaviness;
        }

        int firstSays(int[] weights, int[] held, int p, int sort) {
            int way = firstWay(weights, held, p, firstSheds, firstFewest[firstSheds]);
            return figureOf(way, sort);
        }

        int secondSays(int[] weights, int[] held, int q, int sort) {
            int way = firstWay(weights, held, q, secondSheds, secondFewest[secondSheds]);
            return figureOf(way, sort);
        }

        /** By how few things he sheds each HEAVINESS; the answer is all of his. */
        private static int countFewest(int[] fewest, int[] weights, int[] held, int p) {
            Arrays.fill(fewest, TOO_MANY);
            fewest[0] = 0;
            int all = 0;
            for (int s = 0; s < SORTS; s++) {
                // Bundles of 1, 2, 4 and the rest make up each number of things in fewer rounds.
                int left = held[p * SORTS + s];
                for (int bundle = 1; left > 0 && bundle <= MOST_HELD; bundle *= 2) {
                    int things = Math.min(bundle, left);
                    all += things * weights[s];
                    offerBundle(fewest, all, things * weights[s], things);
                    left -= things;
                }
            }
            return all;
        }

        // Downwards, as a bundle is said once at most.
        private static void offerBundle(int[] fewest, int all, int weight, int things) {
            for (int shed = all; shed >= weight; shed--) {
                int sum = fewest[shed - weight] + things;
                if (sum < fewest[shed]) {
                    fewest[shed] = sum;
                }
            }
        }

        /** The first way to shed so much with so many things, a figure for each SORT. */
        private static int firstWay(int[] weights, int[] held, int p, int shed, int things) {
            int row = p * SORTS;
            for (int a = 0; a <= held[row]; a++) {
                for (int b = 0; b <= held[row + 1]; b++) {
                    for (int c = 0; c <= held[row + 2]; c++) {
                        int d = things - a - b - c;
                        int sum = a * weights[0] + b * weights[1] + c * weights[2] + d * weights[3];
                        if (sum == shed && within(d, 0, held[row + 3])) {
                            return a * 1000 + b * 100 + c * 10 + d;
                        }
                    }
                }
            }
            return 0;
        }

        private static int figureOf(int way, int sort) {
            int rest = way;
            for (int s = SORTS - 1; s > sort; s--) {
                rest /= 10;
            }
            return rest % 10;
        }
    }

    /** What was SHOWN and SEEN, and what can be so by it. */
    private static final class Evidence {
        private static final int PERSON_HEAVIER = 1;
        private static final int BRASS_HEAVIER = 2;
        // A law is a number of four digits to the base of 4, SORT 0's the first: they count up in
        // the order in which the first one is asked for.
        private static final int LAW_BASE = MOST_GROWN + 1;
        private static final int LAWS = LAW_BASE * LAW_BASE * LAW_BASE * LAW_BASE;

        private final int[] shownOf = new int[MOST_RECORDS];
        private final int[] shownBrass = new int[MOST_RECORDS];
        private final int[] shownHow = new int[MOST_RECORDS];
        private final int[] seenOf = new int[MOST_RECORDS];
        private final int[] seenGain = new int[MOST_RECORDS];
        private final int[] waysOfHeaviness = new int[MOST_HEAVINESS + 1];
        private boolean waysStand;
        private int shown;
        private int seen;

        void begin() {
            dropRecords();
            waysStand = false;
        }

        boolean addShown(int p, int brass, int how) {
            if (shown >= MOST_RECORDS) {
                return false;
            }
            shownOf[shown] = p;
            shownBrass[shown] = brass;
            shownHow[shown] = how;
            shown++;
            return true;
        }

        boolean addSeen(int p, int gain) {
            if (seen >= MOST_RECORDS) {
                return false;
            }
            seenOf[seen] = p;
            seenGain[seen] = gain;
            seen++;
            return true;
        }

        void dropRecords() {
            shown = 0;
            seen = 0;
        }

        // CAN is about HEAVINESS alone: the ways to each are counted once, for a shop's WEIGHTS.
        void prepareWays(int[] weights) {
            if (waysStand) {
                return;
            }
            waysStand = true;
            Arrays.fill(waysOfHeaviness, 0);
            for (int a = 0; a <= MOST_HELD; a++) {
                for (int b = 0; b <= MOST_HELD; b++) {
                    for (int c = 0; c <= MOST_HELD; c++) {
                        int sum = a * weights[0] + b * weights[1] + c * weights[2];
                        for (int d = 0; d <= MOST_HELD; d++) {
                            waysOfHeaviness[sum + d * weights[3]]++;
                        }
                    }
                }
            }
        }

        int lowestOf(int p) {
            int low = 0;
            for (int i = 0; i < shown; i++) {
                if (shownOf[i] == p && shownHow[i] != BRASS_HEAVIER) {
                    int least = shownHow[i] == PERSON_HEAVIER ? shownBrass[i] + 1 : shownBrass[i];
                    low = Math.max(low, least);
                }
            }
            return low;
        }

        int highestOf(int p) {
            int high = MOST_HEAVINESS;
            for (int i = 0; i < shown; i++) {
                if (shownOf[i] == p && shownHow[i] != PERSON_HEAVIER) {
                    int most = shownHow[i] == BRASS_HEAVIER ? shownBrass[i] - 1 : shownBrass[i];
                    high = Math.min(high, most);
                }
            }
            return high;
        }

        int waysBetween(int low, int high) {
            int sum = 0;
            for (int heaviness = low; heaviness <= high; heaviness++) {
                sum += waysOfHeaviness[heaviness];
            }
            return sum;
        }

        int leastBetween(int low, int high) {
            for (int heaviness = low; heaviness <= high; heaviness++) {
                if (waysOfHeaviness[heaviness] > 0) {
                    return heaviness;
                }
            }
            return NONE;
        }

        int greatestBetween(int low, int high) {
            for (int heaviness = high; heaviness >= low; heaviness--) {
                if (waysOfHeaviness[heaviness] > 0) {
                    return heaviness;
                }
            }
            return NONE;
        }

        int lawsOf(int p, int[] weights) {
            int sum = 0;
            for (int law = 0; law < LAWS; law++) {
                if (fits(p, gainOf(law, weights))) {
                    sum++;
                }
            }
            return sum;
        }

        int firstLawOf(int p, int[] weights) {
            for (int law = 0; law < LAWS; law++) {
                if (fits(p, gainOf(law, weights))) {
                    return figuresOf(law);
                }
            }
            return NONE;
        }

        private static int gainOf(int law, int[] weights) {
            int rest = law;
            int sum = 0;
            for (int s = SORTS - 1; s >= 0; s--) {
                sum += (rest % LAW_BASE) * weights[s];
                rest /= LAW_BASE;
            }
            return sum;
        }

        private static int figuresOf(int law) {
            int rest = law;
            int place = 1;
            int sum = 0;
            for (int s = 0; s < SORTS; s++) {
                sum += (rest % LAW_BASE) * place;
                rest /= LAW_BASE;
                place *= 10;
            }
            return sum;
        }

        private boolean fits(int p, int gain) {
            for (int i = 0; i < seen; i++) {
                if (seenOf[i] == p && seenGain[i] != gain) {
                    return false;
                }
            }
            return true;
        }
    }
}
