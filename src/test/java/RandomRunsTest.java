import java.util.Random;

/** Runs of 512 calls on the class and on the slow model: every answer must be alike. */
public final class RandomRunsTest {
    private static final int RUNS = 500;
    private static final int CALLS = 512;
    private static final int WILD = 3;

    private final Check check;
    private final Random random;
    private final UnsaidScales x = new UnsaidScales();
    private final SlowModel m = new SlowModel();
    private int calls = 0;

    private RandomRunsTest(Check check, long seed) {
        this.check = check;
        this.random = new Random(seed);
        check.part("run " + seed);
    }

    public static void main(String[] args) {
        Check check = new Check("RandomRunsTest");
        for (int seed = 0; seed < RUNS && check.allRight(); seed++) {
            new RandomRunsTest(check, seed).run();
        }
        check.end();
    }

    private void run() {
        tell();
        while (calls < CALLS && check.allRight()) {
            if (random.nextInt(150) == 0) {
                tell();
            } else {
                call(random.nextInt(32));
            }
        }
        compareAll();
    }

    private void same(String call, long got, long due) {
        calls++;
        check.same("call " + calls + ", " + call, got, due);
    }

    /** A number from least to most, now and then one beyond. */
    private int pick(int least, int most) {
        int r = random.nextInt(100);
        if (r < WILD) {
            return r == 0 ? random.nextInt() : r == 1 ? least - 1 : most + 1;
        }
        return least + random.nextInt(most - least + 1);
    }

    private int person() {
        return random.nextInt(40) == 0 ? pick(-1, 4) : random.nextInt(Math.max(1, m.count(0)));
    }

    private int otherThan(int p) {
        if (random.nextInt(40) == 0) {
            return pick(-1, 4);
        }
        int people = Math.max(2, m.count(0));
        return Math.floorMod(p + 1 + random.nextInt(people - 1), people);
    }

    private void tell() {
        if (random.nextInt(4) != 0) {
            same("clear()", x.clear(), m.clear());
        }
        String text = random.nextInt(4) == 0 ? spoil(textOfShop()) : textOfShop();
        for (int i = 0; i < text.length(); i++) {
            same("type(" + (int) text.charAt(i) + ")", x.type(text.charAt(i)), m.type(text.charAt(i)));
        }
        same("shop() of " + text, x.shop(), m.shop());
    }

    private String blank() {
        return " ".repeat(Math.max(0, random.nextInt(12) - 9));
    }

    private String textOfShop() {
        StringBuilder text = new StringBuilder(blank());
        int people = random.nextInt(8) == 0 ? random.nextInt(4) : 2 + random.nextInt(3);
        int most = random.nextBoolean() ? 9 : 3;
        for (int p = 0; p < people; p++) {
            text.append("p").append(blank());
            for (int s = 0; s < 4; s++) {
                text.append(s == 0 ? "" : " ").append(random.nextInt(most + 1)).append(blank());
            }
            text.append(";");
        }
        for (int i = random.nextInt(6); i > 0 && people > 0; i--) {
            text.append("g").append(random.nextInt(people)).append(" ").append(random.nextInt(4)).append(" ")
                .append(random.nextInt(4)).append(";").append(blank());
        }
        for (int i = random.nextInt(5); i > 0; i--) {
            text.append("s").append(random.nextInt(4)).append(" ").append(1 + random.nextInt(20)).append(";");
        }
        int piece = random.nextBoolean() ? 60 : 12;
        for (int i = random.nextInt(6); i > 0; i--) {
            text.append("b").append(blank()).append(1 + random.nextInt(piece)).append(";");
        }
        return text.toString();
    }

    private String spoil(String text) {
        StringBuilder spoilt = new StringBuilder(text);
        for (int i = 1 + random.nextInt(2); i > 0 && spoilt.length() > 0; i--) {
            int at = random.nextInt(spoilt.length());
            String letters = "spgb;  0123456789xS" + (char) 200;
            char letter = letters.charAt(random.nextInt(letters.length()));
            switch (random.nextInt(4)) {
                case 0 -> spoilt.deleteCharAt(at);
                case 1 -> spoilt.insert(at, letter);
                case 2 -> spoilt.setCharAt(at, letter);
                default -> spoilt.setLength(at);
            }
        }
        return spoilt.toString();
    }

    private void call(int which) {
        int p = person();
        int q = otherThan(p);
        if (which < 11) {
            callOfShop(which, p, q);
        } else if (which < 18) {
            callOfDoing(which, p, q);
        } else if (which < 24) {
            callOfScales(which, p, q);
        } else {
            callOfTheRest(which, p);
        }
    }

    private void callOfShop(int which, int p, int q) {
        int s = pick(0, 3);
        switch (which) {
            case 0 -> same("holds", x.holds(p, s), m.holds(p, s));
            case 1 -> same("grows", x.grows(p, s), m.grows(p, s));
            case 2 -> {
                int what = pick(0, 8);
                same("weight " + what, x.weight(what), m.weight(what));
            }
            case 3 -> same("heavy " + p, x.heavy(p), m.heavy(p));
            case 4 -> same("known " + p + " " + q, x.known(p, q), m.known(p, q));
            case 5 -> {
                int what = pick(0, 4);
                same("count " + what, x.count(what), m.count(what));
            }
            default -> {
                int what = pick(0, 6);
                same("now " + what, x.now(what), m.now(what));
            }
        }
    }

    private void callOfDoing(int which, int p, int q) {
        int s = pick(0, 3);
        switch (which) {
            case 11 -> same("tells " + p + " " + q + " " + s, x.tells(p, q, s), m.tells(p, q, s));
            case 12 -> same("keeps " + p + " " + s, x.keeps(p, s), m.keeps(p, s));
            case 13 -> same("day", x.day(), m.day());
            case 14, 15 -> same("weighs " + p + " " + q, x.weighs(p, q), m.weighs(p, q));
            case 16 -> {
                if (random.nextInt(4) == 0) {
                    same("forgets", x.forgets(), m.forgets());
                }
            }
            default -> same("undo", x.undo(), m.undo());
        }
    }

    private void callOfScales(int which, int p, int q) {
        switch (which) {
            case 18 -> same("beam " + p + " " + q, x.beam(p, q), m.beam(p, q));
            case 19, 20 -> {
                int what = pick(0, 9);
                same("level " + p + " " + q + " " + what, x.level(p, q, what), m.level(p, q, what));
            }
            case 21 -> same("when " + p + " " + q, x.when(p, q), m.when(p, q));
            case 22 -> {
                int s = pick(0, 3);
                int tenths = pick(0, 10);
                int what = pick(0, 1);
                same("odds " + p + " " + q + " " + s + " " + tenths + " " + what,
                    x.odds(p, q, s, tenths, what), m.odds(p, q, s, tenths, what));
            }
            default -> {
                int v = random.nextBoolean() ? pick(0, 300) : pick(0, 40);
                int what = pick(0, 2);
                same("brass " + v + " " + what, x.brass(v, what), m.brass(v, what));
            }
        }
    }

    private void callOfTheRest(int which, int p) {
        switch (which) {
            case 24 -> {
                int heaviness = Math.max(0, m.heavy(p));
                int brass = random.nextBoolean() ? pick(0, 720) : pick(heaviness / 2, heaviness * 2);
                int how = pick(0, 2);
                same("shows", x.shows(p, brass, how), m.shows(p, brass, how));
            }
            case 25 -> {
                int what = pick(0, 2);
                same("can " + p + " " + what, x.can(p, what), m.can(p, what));
            }
            case 26 -> {
                int v = random.nextInt(4) == 0 ? pick(0, 240) : pick(0, 40);
                same("saw", x.saw(p, v), m.saw(p, v));
            }
            case 27 -> {
                int what = pick(0, 1);
                same("laws " + p + " " + what, x.laws(p, what), m.laws(p, what));
            }
            case 28 -> {
                if (random.nextInt(3) == 0) {
                    same("clean", x.clean(), m.clean());
                }
            }
            case 29 -> {
                int kind = pick(0, 5);
                same("rate " + kind + " " + p, x.rate(kind, p), m.rate(kind, p));
                same("trace", x.trace(), m.trace());
            }
            case 30 -> {
                int image = pick(0, 1);
                same("keep " + image, x.keep(image), m.keep(image));
            }
            default -> {
                int image = pick(0, 1);
                if (random.nextInt(3) == 0) {
                    same("back " + image, x.back(image), m.back(image));
                }
            }
        }
    }

    /** All that can be asked of two objects that went through the same calls. */
    private void compareAll() {
        for (int p = -1; p <= 4; p++) {
            for (int s = 0; s < 4; s++) {
                same("at the end, holds", x.holds(p, s), m.holds(p, s));
                same("at the end, grows", x.grows(p, s), m.grows(p, s));
            }
            for (int q = -1; q <= 4; q++) {
                same("at the end, known", x.known(p, q), m.known(p, q));
                same("at the end, level", x.level(p, q, 3), m.level(p, q, 3));
            }
        }
        for (int what = -1; what <= 9; what++) {
            same("at the end, now", x.now(what), m.now(what));
            same("at the end, weight", x.weight(what), m.weight(what));
            same("at the end, count", x.count(what), m.count(what));
        }
        for (int v = -1; v <= 301; v++) {
            same("at the end, brass", x.brass(v, 0), m.brass(v, 0));
            same("at the end, brass", x.brass(v, 1), m.brass(v, 1));
            same("at the end, brass", x.brass(v, 2), m.brass(v, 2));
        }
    }
}
