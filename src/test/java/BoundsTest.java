/**
 * Each sentence of the document that names a bound, but for those about the text (TextBoundsTest)
 * and about refused calls (RefusedTest): what lies on both sides of it, the empty and the full.
 * A part's title is the sentence. No object is called more than 512 times, but for DAY 999.
 */
public final class BoundsTest {
    private static final int BAD = -1, STATE = -2, FULL = -3, NONE = -9, NO = -1000000;
    private static final String ALL_20 = "s0 20;s1 20;s2 20;s3 20;";
    private static final Check c = new Check("BoundsTest");

    public static void main(String[] args) {
        calls512();
        newObject();
        people();
        heaviness();
        dayIsAtMost999();
        toldOneLess();
        toldSortBelow();
        toldOfSort0();
        toldNineAtMost();
        keptNineAtMost();
        daysNineAtMost();
        daysOfNobody();
        weighedByOne();
        knownIsTheLatest();
        forgotten();
        undoneTen();
        undoneEach();
        undoneNotRefused();
        undoneNotOthers();
        beam();
        orders();
        worst();
        next();
        shownSix();
        shownBounds();
        canBounds();
        canCountsAll();
        levelBounds();
        whenBounds();
        brassBounds();
        brassFirstWay();
        range();
        seenSix();
        lawsBounds();
        oddsBounds();
        clean();
        kinds();
        rateBounds();
        traced();
        imagesTwo();
        imagesNothingElse();
        imagesNotUndone();
        readAnew();
        readAnewByNothing();
        constants();
        c.end();
    }

    private static void days(UnsaidScales x, int number) {
        for (int i = 0; i < number; i++) {
            x.day();
        }
    }

    // ---- what it is

    private static void calls512() {
        c.part("an object is used for at most 512 calls");
        UnsaidScales x = new UnsaidScales();
        days(x, 511);
        c.same("the 512th", x.day(), 512);
        x = new UnsaidScales();
        days(x, 500);
        for (int i = 9; i >= 0; i--) {
            c.same("undo behind 500 days", x.undo(), i);
        }
        c.same("no more", x.undo(), STATE);
        c.same("the 512th", x.now(0), 490);
    }

    private static void newObject() {
        c.part("As told; nobody, no BRASS");
        UnsaidScales x = new UnsaidScales();
        for (int what = 0; what <= 4; what++) {
            c.same("count " + what, x.count(what), 0);
        }
        int[] weights = {1, 4, 9, 16, NONE, NONE, NONE, NONE, NONE};
        for (int what = 0; what <= 8; what++) {
            c.same("weight " + what, x.weight(what), weights[what]);
        }
        int[] now = {0, 0, 1, 0, NONE, 0, 0};
        for (int what = 0; what <= 6; what++) {
            c.same("now " + what, x.now(what), now[what]);
        }
        c.same("trace", x.trace(), 0);
        c.same("clear", x.clear(), 0);
        c.same("clean", x.clean(), 0);
        c.same("forgets", x.forgets(), 0);
        c.same("undo", x.undo(), 0);
        c.same("undo", x.undo(), STATE);
        c.same("back 0", x.back(0), STATE);
        c.same("back 1", x.back(1), STATE);
        c.same("keep", x.keep(1), 0);
        c.same("back", x.back(1), 0);
    }

    // ---- 1

    private static void people() {
        c.part("PEOPLE 0 .. (4 at most): BAD, there is no such one");
        for (int n = 0; n <= 4; n++) {
            UnsaidScales x = Shops.told("p1 2 3 4;".repeat(n));
            for (int p = -1; p <= 4; p++) {
                boolean is = p >= 0 && p < n;
                c.same("holds", x.holds(p, 2), is ? 3 : BAD);
                c.same("grows", x.grows(p, 2), is ? 0 : BAD);
                c.same("heavy", x.heavy(p), is ? 100 : BAD);
                c.same("can", x.can(p, 2), is ? 270 : BAD);
                c.same("laws", x.laws(p, 0), is ? 256 : BAD);
                c.same("rate", x.rate(0, p), is ? 100 : NO);
                c.same("keeps", x.keeps(p, 0), is ? 2 : BAD);
                c.same("shows", x.shows(p, 101, 0), is ? p + 1 : BAD);
                c.same("saw", x.saw(p, 5), is ? p + 1 : BAD);
                pairs(x, n, p);
            }
        }
    }

    private static void pairs(UnsaidScales x, int n, int p) {
        for (int q = -1; q <= 4; q++) {
            boolean are = p >= 0 && p < n && q >= 0 && q < n && p != q;
            c.that("known", x.known(p, q) == BAD != are);
            c.that("beam", x.beam(p, q) == NO != are);
            c.that("level", x.level(p, q, 0) == BAD != are);
            c.that("when", x.when(p, q) == BAD != are);
            c.that("odds", x.odds(p, q, 0, 5, 0) == BAD != are);
            c.that("weighs", x.weighs(p, q) == BAD != are);
        }
    }

    private static void heaviness() {
        c.part("HEAVINESS of one: WEIGHTS of all he HOLDS");
        UnsaidScales x = Shops.told(ALL_20 + "p0 0 0 0;p9 9 9 9;p1 0 0 0;p0 0 0 1;");
        c.same("nothing", x.heavy(0), 0);
        c.same("everything", x.heavy(1), 720);
        c.same("one", x.heavy(2), 20);
        c.same("one", x.heavy(3), 20);
        x = Shops.told("s0 1;s1 1;s2 1;s3 1;p9 9 9 9;");
        c.same("everything, light", x.heavy(0), 36);
    }

    // ---- 2

    private static void dayIsAtMost999() {
        c.part("THE DAY is 0 at first (999 at most); STATE: it is 999");
        UnsaidScales x = Shops.told("p0 0 0 0;p0 0 0 0;g0 0 1;");
        c.same("at first", x.now(0), 0);
        c.same("the first", x.day(), 1);
        // Only behind more calls than are promised; it must not be passed all the same.
        days(x, 997);
        c.same("998", x.now(0), 998);
        x.tells(0, 1, 0);
        c.same("the last", x.day(), 999);
        c.same("holds", x.holds(0, 0), 9);
        x.tells(0, 1, 0);
        int may = x.now(6);
        c.same("one more", x.day(), STATE);
        c.same("day", x.now(0), 999);
        c.same("nothing has grown", x.holds(0, 0), 8);
        c.same("may be undone", x.now(6), may);
        x.undo();
        x.undo();
        c.same("undone", x.now(0), 998);
        c.same("the last again", x.day(), 999);
    }

    private static void toldOneLess() {
        c.part("TOLD: he HOLDS one less; STATE: he HOLDS none of it");
        for (int s = 0; s <= 3; s++) {
            UnsaidScales x = Shops.told("p2 2 2 2;p0 0 0 0;");
            int weight = x.weight(s);
            c.same("two", x.tells(0, 1, s), 60 - weight);
            c.same("one is left", x.holds(0, s), 1);
            c.same("the last", x.tells(0, 1, s), 60 - 2 * weight);
            c.same("none is left", x.holds(0, s), 0);
            c.same("none", x.tells(0, 1, s), STATE);
            c.same("still none", x.holds(0, s), 0);
            c.same("heavy", x.heavy(0), 60 - 2 * weight);
            c.same("may be undone", x.now(6), 2);
        }
        UnsaidScales x = Shops.told("p1 0 0 0;p0 0 0 0;");
        c.same("all he has", x.tells(0, 1, 0), 0);
        x = Shops.told("p9 9 9 9;p0 0 0 0;");
        c.same("of nine", x.tells(0, 1, 3), 254);
        c.same("eight", x.holds(0, 3), 8);
    }

    private static void toldSortBelow() {
        c.part("the other one HOLDS one more of the SORT below");
        int[] due = {0, 1000, 100, 10};
        for (int s = 0; s <= 3; s++) {
            UnsaidScales x = Shops.told("p1 1 1 1;p0 0 0 0;p0 0 0 0;");
            x.tells(0, 1, s);
            c.same("sort " + s, Shops.allHeld(x, 1), due[s]);
            c.same("nobody else", Shops.allHeld(x, 2), 0);
            x = Shops.told("p0 0 0 0;p0 0 0 0;p1 1 1 1;");
            x.tells(2, 0, s);
            c.same("sort " + s, Shops.allHeld(x, 0), due[s]);
            c.same("nobody else", Shops.allHeld(x, 1), 0);
        }
    }

    private static void toldOfSort0() {
        c.part("(of SORT 0: none)");
        UnsaidScales x = Shops.told("p3 0 0 0;p1 2 3 4;p5 6 7 8;");
        c.same("heavy", x.tells(0, 1, 0), 2);
        c.same("who told", Shops.allHeld(x, 0), 2000);
        c.same("the other one", Shops.allHeld(x, 1), 1234);
        c.same("a third one", Shops.allHeld(x, 2), 5678);
    }

    private static void toldNineAtMost() {
        c.part("(9 at most: what is beyond is lost)");
        int[] below = {0, 0, 1, 2};
        for (int s = 1; s <= 3; s++) {
            UnsaidScales x = Shops.told("p3 3 3 3;p8 8 8 8;");
            int heavy = x.heavy(0);
            c.same("the ninth", x.tells(0, 1, s), heavy - x.weight(s));
            c.same("nine", x.holds(1, below[s]), 9);
            c.same("a tenth is told", x.tells(0, 1, s), heavy - 2 * x.weight(s));
            c.same("and lost", x.holds(1, below[s]), 9);
            c.same("of the sort itself", x.holds(1, s), 8);
            c.same("one less, two times", x.holds(0, s), 1);
            c.same("undo", x.undo(), 1);
            c.same("who told has it again", x.holds(0, s), 2);
            c.same("nine stay", x.holds(1, below[s]), 9);
            c.same("undo", x.undo(), 0);
            c.same("eight", x.holds(1, below[s]), 8);
        }
    }

    private static void keptNineAtMost() {
        c.part("KEPT (9 at most); STATE: he HOLDS 9");
        for (int s = 0; s <= 3; s++) {
            UnsaidScales x = Shops.told("p0 0 0 0;p0 0 0 0;");
            for (int i = 1; i <= 9; i++) {
                c.same("keeps", x.keeps(1, s), i);
            }
            c.same("a tenth", x.keeps(1, s), STATE);
            c.same("nine", x.holds(1, s), 9);
            c.same("heavy", x.heavy(1), 9 * x.weight(s));
            c.same("may be undone", x.now(6), 9);
            c.same("another sort", x.keeps(1, (s + 1) % 4), 1);
            c.same("another one", x.holds(0, s), 0);
        }
    }

    private static void daysNineAtMost() {
        c.part("A DAY goes by: each HOLDS more by what he GROWS (9 at most of each SORT)");
        UnsaidScales x = Shops.told("p5 6 7 9;p8 0 9 0;g0 0 3;g0 1 3;g0 2 3;g0 3 3;g1 0 1;g1 1 2;");
        c.same("1", x.day(), 1);
        c.same("eight, nine, more than nine, nine", Shops.allHeld(x, 0), 8999);
        c.same("by one, by two, by none", Shops.allHeld(x, 1), 9290);
        c.same("2", x.day(), 2);
        c.same("nine stay", Shops.allHeld(x, 0), 9999);
        c.same("the other one", Shops.allHeld(x, 1), 9490);
        days(x, 3);
        c.same("ten would be", Shops.allHeld(x, 1), 9990);
        x.tells(0, 1, 0);
        c.same("eight", Shops.allHeld(x, 0), 8999);
        x.day();
        c.same("nine again", Shops.allHeld(x, 0), 9999);
        x = Shops.told("p9 0 8 7;".repeat(4) + "g0 3 2;g1 0 1;g1 3 3;g2 2 1;g2 1 3;g3 0 2;g3 2 2;g3 3 1;");
        x.day();
        int[] due = {9089, 9089, 9397, 9098};
        for (int p = 0; p < 4; p++) {
            c.same("each of four, " + p, Shops.allHeld(x, p), due[p]);
        }
    }

    private static void daysOfNobody() {
        c.part("days of nobody, and of one who GROWS nothing");
        UnsaidScales x = new UnsaidScales();
        c.same("nobody", x.day(), 1);
        x = Shops.told("p0 1 8 9;");
        days(x, 5);
        c.same("nothing grows", Shops.allHeld(x, 0), 189);
        c.same("day", x.now(0), 5);
    }

    private static void weighedByOne() {
        c.part("WEIGHED: (1 the first one, 2 the second one, 0 level)");
        UnsaidScales x = Shops.told("p4 0 0 0;p0 1 0 0;p5 0 0 0;p3 0 0 0;");
        c.same("level", x.weighs(0, 1), 0);
        c.same("level", x.weighs(1, 0), 0);
        c.same("by one more", x.weighs(2, 1), 1);
        c.same("by one less", x.weighs(1, 2), 2);
        c.same("by one less", x.weighs(3, 1), 2);
        c.same("by one more", x.weighs(1, 3), 1);
        c.same("pairs", x.now(1), 3);
        x = Shops.told(ALL_20 + "p9 9 9 9;p0 0 0 0;p0 0 0 0;");
        c.same("by the most", x.weighs(0, 1), 1);
        c.same("by the most", x.weighs(1, 0), 2);
        c.same("nothing on either side", x.weighs(2, 1), 0);
    }

    private static void knownIsTheLatest() {
        c.part("known is what was found latest of a pair, though they may have changed");
        UnsaidScales x = Shops.told("p1 0 0 0;p2 0 0 0;p3 0 0 0;g0 0 3;");
        c.same("nothing yet", x.known(0, 1), NONE);
        x.weighs(0, 1);
        x.day();
        c.same("he is heavier now", x.beam(0, 1), 2);
        c.same("known", x.known(0, 1), 2);
        c.same("the other way round", x.known(1, 0), 1);
        c.same("weighed again", x.weighs(1, 0), 2);
        c.same("known", x.known(0, 1), 1);
        c.same("one pair", x.now(1), 1);
        x.tells(0, 1, 0);
        x.tells(0, 1, 0);
        x.weighs(0, 1);
        c.same("level", x.known(1, 0), 0);
        x.keeps(0, 3);
        c.same("level still", x.known(0, 1), 0);
        c.same("another pair", x.known(0, 2), NONE);
        c.same("another pair", x.known(2, 1), NONE);
    }

    private static void forgotten() {
        c.part("whatever was known is forgotten by forgets(): how many were");
        UnsaidScales x = Shops.told("p1 0 0 0;p2 0 0 0;p3 0 0 0;p4 0 0 0;");
        c.same("none", x.forgets(), 0);
        for (int p = 0; p < 4; p++) {
            for (int q = 0; q < 4; q++) {
                x.weighs(p, q);
            }
        }
        c.same("pairs", x.now(1), 6);
        c.same("all", x.forgets(), 6);
        for (int p = 0; p < 4; p++) {
            for (int q = p + 1; q < 4; q++) {
                c.same("known", x.known(p, q), NONE);
            }
        }
        c.same("pairs", x.now(1), 0);
        c.same("none any more", x.forgets(), 0);
        x.weighs(3, 2);
        c.same("one", x.forgets(), 1);
    }

    private static void undoneTen() {
        c.part("UNDONE (10 are known, older ones are lost). STATE: none");
        for (int done = 0; done <= 25; done++) {
            UnsaidScales x = new UnsaidScales();
            days(x, done);
            int may = Math.min(10, done);
            c.same("may be", x.now(6), may);
            for (int i = may - 1; i >= 0; i--) {
                c.same("undo", x.undo(), i);
            }
            c.same("no more", x.undo(), STATE);
            c.same("day", x.now(0), done - may);
            c.same("may be", x.now(6), 0);
            x.day();
            c.same("one more", x.now(6), 1);
        }
        UnsaidScales x = new UnsaidScales();
        days(x, 12);
        c.same("some are undone", x.undo() + x.undo() + x.undo(), 9 + 8 + 7);
        days(x, 4);
        c.same("ten again", x.now(6), 10);
        for (int i = 9; i >= 0; i--) {
            c.same("undo", x.undo(), i);
        }
        c.same("no more", x.undo(), STATE);
        c.same("day", x.now(0), 3);
    }

    private static void undoneEach() {
        c.part("UNDONE: the latest tells(), keeps(), day(), weighs(), forgets()");
        UnsaidScales x = Shops.told("p1 0 0 1;p0 0 9 0;g0 0 3;g1 2 3;g1 3 1;");
        x.weighs(0, 1);
        x.tells(0, 1, 3);
        x.weighs(1, 0);
        x.day();
        x.keeps(0, 0);
        x.forgets();
        c.same("forgets", x.undo(), 5);
        c.same("known", x.known(0, 1), 2);
        c.same("keeps", x.undo(), 4);
        c.same("held", Shops.allHeld(x, 0), 4000);
        c.same("day", x.undo(), 3);
        c.same("the day", x.now(0), 0);
        c.same("held", Shops.allHeld(x, 0), 1000);
        c.same("held by the other one", Shops.allHeld(x, 1), 90);
        c.same("weighs", x.undo(), 2);
        c.same("what was known ahead of it", x.known(0, 1), 2);
        c.same("tells", x.undo(), 1);
        c.same("held", Shops.allHeld(x, 0), 1001);
        c.same("held by the other one", Shops.allHeld(x, 1), 90);
        c.same("weighs", x.undo(), 0);
        c.same("known", x.known(0, 1), NONE);
        c.same("pairs", x.now(1), 0);
    }

    private static void undoneNotRefused() {
        c.part("UNDONE: that was not refused");
        UnsaidScales x = Shops.told("p9 0 0 0;p0 0 0 0;");
        x.day();
        x.tells(0, 1, 1);
        x.tells(0, 0, 0);
        x.tells(0, 2, 0);
        x.tells(0, 1, 4);
        x.keeps(0, 0);
        x.keeps(2, 0);
        x.keeps(0, -1);
        x.weighs(1, 1);
        x.weighs(0, 2);
        c.same("may be", x.now(6), 1);
        c.same("undo", x.undo(), 0);
        c.same("day", x.now(0), 0);
        c.same("no more", x.undo(), STATE);
        c.same("forgets of nothing is not refused", x.forgets(), 0);
        c.same("may be", x.now(6), 1);
    }

    private static void undoneNotOthers() {
        c.part("UNDONE: no others");
        UnsaidScales x = Shops.told("p9 0 0 0;p0 0 0 0;");
        x.day();
        x.keep(0);
        x.shows(0, 1, 1);
        x.saw(0, 1);
        x.rate(0, 0);
        x.type('x');
        c.same("may be", x.now(6), 1);
        c.same("undo", x.undo(), 0);
        c.same("shown", x.count(2), 1);
        c.same("seen", x.count(3), 1);
        c.same("letters", x.count(4), 1);
        c.same("trace", x.trace(), 1);
        c.same("the image", x.back(0), 1);
        x.day();
        x.clean();
        x.clear();
        x.undo();
        c.same("cleaned", x.count(2) + x.count(3) + x.count(4), 0);
    }

    // ---- 3

    private static void beam() {
        c.part("BEAM");
        UnsaidScales x = Shops.told(ALL_20 + "p9 9 9 9;p0 0 0 0;p9 9 9 8;p9 9 9 9;");
        c.same("the most", x.beam(0, 1), 720);
        c.same("the least", x.beam(1, 0), -720);
        c.same("level", x.beam(0, 3), 0);
        c.same("by one thing", x.beam(0, 2), 20);
        c.same("by one thing", x.beam(2, 0), -20);
        x = Shops.told("p0 0 0 0;p1 0 0 0;p2 0 0 0;p3 0 0 0;");
        c.same("-1 is no refusal", x.beam(0, 1), -1);
        c.same("-2 is no refusal", x.beam(0, 2), -2);
        c.same("-3 is no refusal", x.beam(0, 3), -3);
    }

    private static void orders() {
        c.part("ORDERS: how many");
        int[] due = {1, 1, 3, 13, 75};
        for (int n = 0; n <= 4; n++) {
            c.same("nothing known, " + n, Shops.told("p0 0 0 0;".repeat(n)).now(2), due[n]);
        }
        UnsaidScales x = Shops.told("p3 0 0 0;p2 0 0 0;p1 0 0 0;p0 0 0 0;");
        for (int p = 0; p < 4; p++) {
            for (int q = p + 1; q < 4; q++) {
                x.weighs(p, q);
            }
        }
        c.same("all known", x.now(2), 1);
        x.keeps(3, 0);
        x.weighs(2, 3);
        c.same("all known, some level", x.now(2), 1);
        x.keeps(3, 3);
        x.weighs(0, 3);
        c.same("what is known can't be", x.now(2), 0);
        x.weighs(1, 3);
        x.weighs(2, 3);
        c.same("it can again", x.now(2), 1);
        x.forgets();
        c.same("forgotten", x.now(2), 75);
    }

    private static void worst() {
        c.part("WORST (0: there is one at most NOW)");
        int[] due = {0, 0, 1, 3, 5};
        for (int n = 0; n <= 4; n++) {
            c.same("nothing known, " + n, Shops.told("p0 0 0 0;".repeat(n)).now(3), due[n]);
        }
        UnsaidScales x = Shops.told("p3 0 0 0;p2 0 0 0;p1 0 0 0;");
        x.weighs(0, 1);
        c.same("five are left", x.now(2), 5);
        c.same("worst", x.now(3), 2);
        x.weighs(0, 2);
        c.same("three are left", x.now(2), 3);
        c.same("worst", x.now(3), 1);
        x.keeps(2, 3);
        x.weighs(1, 2);
        c.same("one is left", x.now(2), 1);
        c.same("worst", x.now(3), 0);
        x.undo();
        x.undo();
        x.weighs(1, 2);
        x.keeps(2, 3);
        x.weighs(0, 2);
        c.same("none is left", x.now(2), 0);
        c.same("worst", x.now(3), 0);
        c.same("next", x.now(4), NONE);
    }

    private static void next() {
        c.part("NEXT; NONE (WORST is 0)");
        int[] due = {NONE, NONE, 1, 1, 1};
        for (int n = 0; n <= 4; n++) {
            c.same("nothing known, " + n, Shops.told("p0 0 0 0;".repeat(n)).now(4), due[n]);
        }
        UnsaidScales x = Shops.told("p4 0 0 0;p3 0 0 0;p2 0 0 0;p1 0 0 0;");
        x.weighs(0, 1);
        x.weighs(0, 2);
        x.weighs(0, 3);
        x.weighs(1, 2);
        x.weighs(1, 3);
        c.same("the last pair", x.now(4), 23);
        x.weighs(3, 2);
        c.same("all pairs are known", x.now(4), NONE);
        x.forgets();
        x.weighs(0, 1);
        x.weighs(1, 2);
        x.weighs(2, 3);
        c.same("three pairs are not known, none is needed", x.now(4), NONE);
        c.same("pairs", x.now(1), 3);
        x.undo();
        // 3 is put in among 0, 1, 2 by halves: neither 0 nor 2 leaves so little at worst.
        c.same("the least, ahead of the first", x.now(4), 13);
    }

    private static void shownSix() {
        c.part("SHOWN (6 at most): how much there is. FULL");
        UnsaidScales x = Shops.told("p0 0 0 0;p0 0 0 0;");
        c.same("none", x.count(2), 0);
        for (int i = 1; i <= 6; i++) {
            c.same("shows", x.shows(i % 2, 100 + i, 2), i);
        }
        c.same("a seventh", x.shows(0, 1, 2), FULL);
        c.same("of the other one", x.shows(1, 1, 2), FULL);
        c.same("shown", x.count(2), 6);
        c.same("a seventh tells nothing", x.can(0, 2), 101);
        c.same("of the other one", x.can(1, 2), 100);
        c.same("seen are others", x.saw(0, 1), 1);
        c.same("clean", x.clean(), 7);
        c.same("there is room", x.shows(0, 1, 2), 1);
    }

    private static void shownBounds() {
        c.part("against so much brass (0 .. 720) the scales showed 1, 2 or 0");
        for (int brass : new int[] {-1, 0, 720, 721}) {
            for (int how = -1; how <= 3; how++) {
                boolean good = brass >= 0 && brass <= 720 && how >= 0 && how <= 2;
                UnsaidScales x = Shops.told("p0 0 0 0;");
                c.same("shows " + brass + " " + how, x.shows(0, brass, how), good ? 1 : BAD);
                c.same("shown", x.count(2), good ? 1 : 0);
            }
        }
    }

    private static void can(String text, int brass, int how, int ways, int least, int greatest) {
        UnsaidScales x = Shops.told(text + "p1 2 3 4;");
        x.shows(0, brass, how);
        String shown = " of " + brass + ", " + how;
        c.same("ways" + shown, x.can(0, 0), ways);
        c.same("least" + shown, x.can(0, 1), least);
        c.same("greatest" + shown, x.can(0, 2), greatest);
    }

    private static void canBounds() {
        c.part("CAN: in how many ways; his least, his greatest HEAVINESS; NONE");
        can("", 0, 2, 0, NONE, NONE);
        can("", 0, 0, 1, 0, 0);
        can("", 0, 1, 9999, 1, 270);
        can("", 1, 2, 1, 0, 0);
        can("", 269, 1, 1, 270, 270);
        can("", 270, 0, 1, 270, 270);
        can("", 270, 1, 0, NONE, NONE);
        can("", 270, 2, 9999, 0, 269);
        can("", 271, 2, 10000, 0, 270);
        can("", 271, 0, 0, NONE, NONE);
        can("", 720, 2, 10000, 0, 270);
        can("", 720, 0, 0, NONE, NONE);
        can(ALL_20, 0, 1, 9999, 20, 720);
        can(ALL_20, 720, 0, 1, 720, 720);
        can(ALL_20, 720, 1, 0, NONE, NONE);
        can(ALL_20, 720, 2, 9999, 0, 700);
        can(ALL_20, 719, 1, 1, 720, 720);
        can(ALL_20, 719, 0, 0, NONE, NONE);
        can(ALL_20, 700, 0, 4, 700, 700);
    }

    private static void canCountsAll() {
        c.part("CAN: so that all that was SHOWN of him is so");
        UnsaidScales x = Shops.told("p0 0 0 0;p0 0 0 0;");
        c.same("nothing shown", x.can(0, 0), 10000);
        x.shows(0, 10, 1);
        x.shows(0, 20, 2);
        x.shows(0, 12, 1);
        x.shows(0, 18, 2);
        x.shows(0, 14, 1);
        c.same("the greatest by five", x.can(0, 2), 17);
        x.shows(0, 16, 2);
        // 15 is 2 + 4 + 9, 6 + 9, 3 + 3 * 4, 7 + 2 * 4.
        c.same("ways by six", x.can(0, 0), 4);
        c.same("the least", x.can(0, 1), 15);
        c.same("the greatest", x.can(0, 2), 15);
        c.same("the other one", x.can(1, 0), 10000);
        x.clean();
        x.shows(0, 5, 1);
        x.shows(0, 5, 2);
        c.same("it can't be", x.can(0, 0), 0);
        c.same("the least", x.can(0, 1), NONE);
        c.same("the greatest", x.can(0, 2), NONE);
        x.clean();
        x.shows(0, 5, 1);
        x.shows(0, 6, 2);
        c.same("nothing lies between", x.can(0, 0), 0);
        x.keeps(0, 0);
        x.day();
        x.clean();
        c.same("what he holds does not matter", x.can(0, 1), 0);
    }

    private static void level(String text, int things, int heaviness, String first, String second) {
        UnsaidScales x = Shops.told(text);
        c.same("things", x.level(0, 1, 0), things);
        c.same("heaviness", x.level(0, 1, 1), heaviness);
        for (int s = 0; s < 4; s++) {
            c.same("the first one, sort " + s, x.level(0, 1, 2 + s), first.charAt(s) - '0');
            c.same("the second one, sort " + s, x.level(0, 1, 6 + s), second.charAt(s) - '0');
            c.same("turned round", x.level(1, 0, 2 + s), second.charAt(s) - '0');
            c.same("turned round", x.level(1, 0, 6 + s), first.charAt(s) - '0');
        }
    }

    private static void levelBounds() {
        c.part("LEVEL: nothing to say, nothing need be said, all must be said");
        level("p0 0 0 0;p0 0 0 0;", 0, 0, "0000", "0000");
        level(ALL_20 + "p9 9 9 9;p9 9 9 9;", 0, 720, "0000", "0000");
        level(ALL_20 + "p9 9 9 9;p0 0 0 0;", 36, 0, "9999", "0000");
        level(ALL_20 + "p0 0 0 0;p9 9 9 9;", 36, 0, "0000", "9999");
        level("s0 20;s1 19;p9 0 0 0;p0 9 0 0;", 18, 0, "9000", "0900");
        level("p0 0 0 1;p0 4 0 0;", 0, 16, "0000", "0000");
        level("p1 0 0 0;p0 0 0 0;", 1, 0, "1000", "0000");
        // 126 are 7 * 16, and 9, 4, 1.
        level("p0 0 0 9;p9 9 9 9;", 10, 144, "0000", "1117");
        c.part("LEVEL: fewest things, then the greatest HEAVINESS, then the first way");
        // 16 against 7: nine less, or 16 and 7: one thing each way; nothing is shed by one alone.
        level("s0 7;s1 16;s2 9;p0 1 0 0;p1 0 0 0;", 2, 0, "0100", "1000");
        level("s0 1;s1 2;s2 3;s3 4;p0 0 1 1;p1 1 0 1;", 0, 7, "0000", "0000");
        // 5 against 4: 2 and 1 said leave 3, 3 and 2 said leave 2.
        level("s0 1;s1 2;s2 3;s3 4;p0 1 1 0;p2 1 0 0;", 2, 3, "0100", "1000");
        // 5 are 4 and 1, or 3 and 2.
        level("s0 4;s1 3;s2 2;s3 1;p2 2 2 2;p0 5 0 0;", 2, 15, "0110", "0000");
        // 6 are 5 and 1, or 3 and 3.
        level("s0 20;s1 5;s2 3;s3 1;p0 1 2 1;p0 0 2 0;", 2, 6, "0020", "0000");
        // 2 is one thing, not two of 3 less one of 4; 7 is 4 and 3, of which he holds one each.
        level("s0 1;s1 2;s2 3;s3 4;p0 1 2 0;p0 0 2 0;", 1, 6, "0100", "0000");
        level("s0 1;s1 2;s2 3;s3 4;p0 3 1 1;p0 3 0 0;", 2, 6, "0011", "0000");
        // As few as he holds of SORT 2, and of SORT 3.
        level("s0 5;s1 4;s2 2;s3 1;p0 1 1 3;p0 0 0 3;", 2, 3, "0110", "0000");
        level("s0 7;s1 5;s2 3;s3 1;p0 1 3 1;p0 1 0 1;", 3, 6, "0030", "0000");
        // 8 are 5 and 3, or two of 4, of which he holds one.
        level("s0 7;s1 5;s2 3;s3 4;p0 1 2 1;p1 0 0 0;", 2, 7, "0110", "0000");
        level("s0 1;s1 2;s2 3;s3 4;p1 1 1 1;p0 0 0 1;", 2, 4, "0101", "0000");
    }

    private static void whenBounds() {
        c.part("WHEN: the first DAY (THE DAY .. 99 later); NONE");
        UnsaidScales x = Shops.told("p0 0 0 0;p8 0 0 0;p9 0 0 0;p0 0 0 0;g0 0 1;");
        c.same("today", x.when(1, 0), 0);
        c.same("tomorrow", x.when(0, 3), 1);
        // Behind nine days nobody grows any more: no day beyond them is ever the first.
        c.same("as late as can be", x.when(0, 1), 9);
        c.same("level at last is not heavier", x.when(0, 2), NONE);
        c.same("level for ever", Shops.told("p1 0 0 0;p1 0 0 0;").when(0, 1), NONE);
        c.same("lighter for ever", x.when(3, 1), NONE);
        days(x, 8);
        c.same("level today is not heavier", x.when(0, 1), 9);
        c.same("heavier today, lighter tomorrow", x.when(2, 0), 8);
        days(x, 1);
        c.same("today", x.when(0, 1), 9);
        days(x, 200);
        c.same("today, long behind it", x.when(0, 1), 209);
        c.same("nothing is done by it", x.now(0), 209);
        x = Shops.told("p0 0 0 0;p0 0 0 0;g0 0 3;g1 0 2;");
        c.same("both grow", x.when(0, 1), 1);
        c.same("the slower one", x.when(1, 0), NONE);
        x = Shops.told("s0 2;s1 1;p3 0 0 0;p0 0 0 0;g0 0 3;g1 1 3;g1 0 1;");
        // 6, 12, 18, 18 .. against 0, 5, 10, 15, 17, 19.
        c.same("when the first one can't grow any more", x.when(1, 0), 5);
    }

    private static void brass(UnsaidScales x, int v, int pieces, int heavier, int other) {
        c.same("pieces for " + v, x.brass(v, 0), pieces);
        c.same("heavier pan for " + v, x.brass(v, 1), heavier);
        c.same("other pan for " + v, x.brass(v, 2), other);
    }

    private static void brassBounds() {
        c.part("BRASS of v (0 .. 300); NONE");
        UnsaidScales x = new UnsaidScales();
        brass(x, -1, BAD, BAD, BAD);
        brass(x, 0, 0, 0, 0);
        brass(x, 1, NONE, NONE, NONE);
        brass(x, 300, NONE, NONE, NONE);
        brass(x, 301, BAD, BAD, BAD);
        x = Shops.told("b60;b60;b60;b60;b60;");
        brass(x, 0, 0, 0, 0);
        brass(x, 59, NONE, NONE, NONE);
        brass(x, 60, 1, 1, 0);
        brass(x, 61, NONE, NONE, NONE);
        brass(x, 240, 4, 15, 0);
        brass(x, 299, NONE, NONE, NONE);
        brass(x, 300, 5, 31, 0);
        brass(x, 301, BAD, BAD, BAD);
        x = Shops.told("b1;b3;b9;b27;b60;");
        brass(x, 100, 5, 31, 0);
        brass(x, 101, NONE, NONE, NONE);
        brass(x, 74, 5, 24, 7);
        brass(Shops.told("b1;b2;b4;b8;b60;"), 45, 5, 16, 15);
        x = Shops.told("b5;");
        brass(x, 5, 1, 1, 0);
        brass(x, 10, NONE, NONE, NONE);
    }

    private static void brassFirstWay() {
        c.part("BRASS: the fewest pieces, of several ways the first");
        UnsaidScales x = Shops.told("b5;b5;b5;b5;b5;");
        brass(x, 5, 1, 1, 0);
        brass(x, 10, 2, 3, 0);
        brass(x, 15, 3, 7, 0);
        brass(x, 25, 5, 31, 0);
        // 4 less 1, 1 and 2, 5 less 2: the heavier pans are 1, 10, 4.
        brass(Shops.told("b4;b1;b5;b2;"), 3, 2, 1, 2);
        // 9 less either 2; 2 and 2 and 3 would be one piece more.
        brass(Shops.told("b2;b2;b9;b3;"), 7, 2, 4, 1);
        brass(Shops.told("b1;b2;b3;b6;"), 6, 1, 8, 0);
    }

    private static void range() {
        c.part("RANGE: the greatest v such that all of 1 .. v can be weighed so");
        c.same("no brass", new UnsaidScales().now(5), 0);
        c.same("1 can't be", Shops.told("b2;").now(5), 0);
        c.same("1 can't be", Shops.told("b60;b60;b60;b60;b60;").now(5), 0);
        c.same("one piece", Shops.told("b1;").now(5), 1);
        c.same("1 by two", Shops.told("b60;b59;").now(5), 1);
        c.same("to the last", Shops.told("b1;b3;b9;b27;").now(5), 40);
        c.same("to the last of five", Shops.told("b1;b3;b9;b27;b60;").now(5), 100);
        c.same("up to a gap", Shops.told("b1;b3;b9;b28;").now(5), 13);
        c.same("up to a gap", Shops.told("b1;b4;").now(5), 1);
        c.same("no gap", Shops.told("b2;b3;").now(5), 3);
    }

    private static void seenSix() {
        c.part("SEEN (6 at most), by v (0 .. 240): how much there is. FULL");
        UnsaidScales x = Shops.told("p0 0 0 0;p0 0 0 0;");
        c.same("none", x.count(3), 0);
        c.same("-1", x.saw(0, -1), BAD);
        c.same("241", x.saw(0, 241), BAD);
        c.same("none", x.count(3), 0);
        c.same("0", x.saw(0, 0), 1);
        c.same("240", x.saw(1, 240), 2);
        for (int i = 3; i <= 6; i++) {
            c.same("saw", x.saw(0, 0), i);
        }
        c.same("a seventh", x.saw(0, 1), FULL);
        c.same("of the other one", x.saw(1, 1), FULL);
        c.same("seen", x.count(3), 6);
        c.same("a seventh tells nothing", x.laws(0, 0), 1);
        c.same("shown are others", x.shows(0, 1, 1), 1);
        c.same("clean", x.clean(), 7);
        c.same("there is room", x.saw(0, 1), 1);
    }

    private static void laws(String text, int v, int ways, int first) {
        UnsaidScales x = Shops.told(text + "p9 9 9 9;");
        x.saw(0, v);
        c.same("laws of " + v, x.laws(0, 0), ways);
        c.same("the first of " + v, x.laws(0, 1), first);
    }

    private static void lawsBounds() {
        c.part("LAWS (0 .. 3 of each SORT; 9 at most of each do not matter); the first; NONE");
        String ones = "s0 1;s1 1;s2 1;s3 1;";
        laws(ones, 0, 1, 0);
        laws(ones, 1, 4, 1);
        laws(ones, 3, 20, 3);
        laws(ones, 4, 31, 13);
        laws(ones, 11, 4, 2333);
        laws(ones, 12, 1, 3333);
        laws(ones, 13, 0, NONE);
        laws(ALL_20, 0, 1, 0);
        laws(ALL_20, 19, 0, NONE);
        laws(ALL_20, 220, 4, 2333);
        laws(ALL_20, 239, 0, NONE);
        laws(ALL_20, 240, 1, 3333);
        laws("", 240, 0, NONE);
        laws("", 90, 1, 3333);
        laws("", 1, 1, 1000);
        // 0001, 3110.
        laws("", 16, 2, 1);
        UnsaidScales x = Shops.told(ones + "p9 9 9 9;p0 0 0 0;g0 0 3;");
        c.same("nothing seen", x.laws(0, 0), 256);
        c.same("the first", x.laws(0, 1), 0);
        for (int i = 0; i < 5; i++) {
            x.saw(0, 3);
        }
        c.same("five that are alike", x.laws(0, 0), 20);
        x.saw(0, 4);
        c.same("the sixth can't be so, too", x.laws(0, 0), 0);
        c.same("the first", x.laws(0, 1), NONE);
        c.same("the other one", x.laws(1, 0), 256);
        c.same("what he grows stays", x.grows(0, 0), 3);
    }

    private static void odds(String text, int s, int tenths, long upper, long lower) {
        UnsaidScales x = Shops.told(text);
        c.same("upper " + text + " " + s + " " + tenths, x.odds(0, 1, s, tenths, 0), upper);
        c.same("lower " + text + " " + s + " " + tenths, x.odds(0, 1, s, tenths, 1), lower);
    }

    private static void oddsBounds() {
        c.part("ODDS, x (0 .. 10): that he is lighter then, in least terms");
        odds("p9 0 0 0;p1 0 0 0;", 0, 0, 0, 1);
        odds("p9 0 0 0;p1 0 0 0;", 0, 1, 1, 1000000000);
        odds("p9 0 0 0;p1 0 0 0;", 0, 5, 1, 512);
        odds("p9 0 0 0;p1 0 0 0;", 0, 9, 387420489, 1000000000);
        odds("p9 0 0 0;p1 0 0 0;", 0, 10, 1, 1);
        odds("p9 0 0 0;p9 0 0 0;", 0, 0, 0, 1);
        odds("p9 0 0 0;p9 0 0 0;", 0, 1, 612579511, 1000000000);
        odds("p9 0 0 0;p9 0 0 0;", 0, 9, 999999999, 1000000000);
        odds("p9 0 0 0;p9 0 0 0;", 0, 10, 1, 1);
        c.part("ODDS: level is not lighter");
        odds("p9 0 0 0;p0 0 0 0;", 0, 10, 0, 1);
        odds("p0 0 0 1;p0 0 0 1;", 3, 0, 0, 1);
        odds("p0 0 0 1;p0 0 0 1;", 3, 1, 1, 10);
        odds("p0 0 0 1;p0 0 0 1;", 3, 10, 1, 1);
        c.part("ODDS: he HOLDS none of it");
        odds("p9 0 0 0;p0 0 0 0;", 1, 5, 0, 1);
        odds("p0 0 0 0;p0 0 0 0;", 0, 5, 0, 1);
        odds("p0 0 0 0;p1 0 0 0;", 0, 5, 1, 1);
        odds("p0 0 0 0;p1 0 0 0;", 3, 0, 1, 1);
        odds("p9 0 0 0;p9 9 0 0;", 3, 10, 1, 1);
        c.part("ODDS of others than the first");
        UnsaidScales x = Shops.told("p0 0 0 0;p3 1 0 0;p0 0 2 1;p2 2 0 9;");
        c.same("of one, upper", x.odds(1, 0, 0, 5, 0), 0);
        c.same("of one, upper", x.odds(1, 2, 0, 5, 0), 1);
        c.same("of two, upper", x.odds(2, 1, 3, 9, 0), 0);
        c.same("of two, upper", x.odds(2, 1, 3, 9, 1), 1);
        // 154 less 16 each against 34: eight or nine of nine must be said.
        c.same("of three, upper", x.odds(3, 2, 3, 5, 0), 5);
        c.same("of three, lower", x.odds(3, 2, 3, 5, 1), 256);
        c.part("ODDS: to nobody");
        odds("p1 0 0 0;p0 0 0 0;", 0, 10, 0, 1);
        odds("p0 1 0 0;p4 0 0 0;", 1, 5, 1, 2);
    }

    private static void clean() {
        c.part("Nothing was SHOWN, SEEN: how much both were");
        UnsaidScales x = Shops.told("p0 0 0 0;");
        c.same("nothing", x.clean(), 0);
        for (int i = 0; i < 7; i++) {
            x.shows(0, 5, 0);
            x.saw(0, 5);
        }
        c.same("both full", x.clean(), 12);
        c.same("shown", x.count(2), 0);
        c.same("seen", x.count(3), 0);
        c.same("can", x.can(0, 0), 10000);
        c.same("laws", x.laws(0, 0), 256);
        c.same("nothing", x.clean(), 0);
        x.shows(0, 5, 0);
        c.same("shown alone", x.clean(), 1);
        x.saw(0, 5);
        c.same("seen alone", x.clean(), 1);
    }

    // ---- 4

    private static void kinds() {
        c.part("KINDS 0 .. 5. NO: BAD");
        UnsaidScales x = Shops.told("p0 0 0 0;p1 1 1 1;g1 0 3;g1 1 2;");
        x.day();
        int[] due = {41, 50, 36, 100, 37, 42};
        for (int kind = 0; kind <= 5; kind++) {
            c.same("kind " + kind, x.rate(kind, 1), due[kind]);
        }
        long trace = x.trace();
        for (int kind : new int[] {-1, 6, Integer.MIN_VALUE, Integer.MAX_VALUE}) {
            c.same("kind " + kind, x.rate(kind, 1), NO);
            c.same("trace", x.trace(), trace);
        }
    }

    private static void rateBounds() {
        c.part("RATE: the least and the greatest");
        String three = "g0 0 3;g0 1 3;g0 2 3;g0 3 3;";
        UnsaidScales x = Shops.told("p0 0 0 0;" + three);
        c.same("PARTNER", x.rate(2, 0), -12);
        c.same("BANKRUPT, number 0", x.rate(4, 0), -12);
        c.same("BRIDE", x.rate(1, 0), 0);
        x = Shops.told("p0 0 0 0;".repeat(4) + three.replace("g0", "g3"));
        c.same("BANKRUPT, number 3: -9 is no NONE", x.rate(4, 3), -9);
        c.same("BANKRUPT, number 2", x.rate(4, 2), 2);
        x = Shops.told("p0 0 0 0;g0 0 1;");
        c.same("-1 is no BAD", x.rate(2, 0), -1);
        x = Shops.told(ALL_20 + "p9 9 9 9;");
        c.same("PERSON", x.rate(0, 0), 720);
        c.same("BRIDE", x.rate(1, 0), 756);
        c.same("BROTHER", x.rate(3, 0), 1512);
        days(x, 400);
        c.same("STRANGER", x.rate(5, 0), 1120);
        c.same("BROTHER, whatever THE DAY", x.rate(3, 0), 1512);
    }

    private static void traced() {
        c.part("THE TRACE, 0 at first, as often as rate() asks that body: each once");
        long[] due = {1, 11, 101, 1011, 10101, 100001};
        for (int kind = 0; kind <= 5; kind++) {
            UnsaidScales x = Shops.told("p1 2 3 4;");
            c.same("at first", x.trace(), 0);
            x.rate(kind, 0);
            c.same("kind " + kind, x.trace(), due[kind]);
            x.rate(kind, 1);
            x.rate(kind, -1);
            c.same("refused", x.trace(), due[kind]);
            for (int i = 2; i <= 200; i++) {
                x.rate(kind, 0);
            }
            c.same("200 times", x.trace(), 200 * due[kind]);
        }
    }

    private static void imagesTwo() {
        c.part("IMAGES 0, 1. BAD; STATE: none was kept");
        UnsaidScales x = Shops.told("p1 0 0 0;p2 0 0 0;g0 0 1;");
        for (int image : new int[] {-1, 2, Integer.MIN_VALUE, Integer.MAX_VALUE}) {
            c.same("keep " + image, x.keep(image), BAD);
            c.same("back " + image, x.back(image), BAD);
        }
        c.same("none", x.back(0), STATE);
        c.same("none", x.back(1), STATE);
        c.same("keep", x.keep(1), 0);
        c.same("the other one", x.back(0), STATE);
        x.day();
        x.weighs(0, 1);
        c.same("keep", x.keep(0), 1);
        days(x, 3);
        c.same("back to 1", x.back(1), 0);
        c.same("held", Shops.allHeld(x, 0), 1000);
        c.same("known", x.known(0, 1), NONE);
        c.same("back to 0", x.back(0), 1);
        c.same("held", Shops.allHeld(x, 0), 2000);
        c.same("known", x.known(0, 1), 0);
        days(x, 2);
        c.same("back to 0 again", x.back(0), 1);
        c.same("held", Shops.allHeld(x, 0), 2000);
        days(x, 2);
        c.same("keep over it", x.keep(0), 3);
        x.forgets();
        c.same("back", x.back(0), 3);
        c.same("held", Shops.allHeld(x, 0), 4000);
        c.same("known", x.known(0, 1), 0);
        c.same("the other one stays", x.back(1), 0);
    }

    private static void imagesNothingElse() {
        c.part("IMAGES keep NOW; nothing else");
        UnsaidScales x = Shops.told("p1 0 0 0;p2 0 0 0;b5;");
        x.shows(0, 9, 1);
        x.saw(0, 9);
        x.rate(0, 0);
        x.type('b');
        x.keep(0);
        x.shows(1, 9, 1);
        x.saw(1, 9);
        x.rate(0, 0);
        x.type('7');
        x.back(0);
        c.same("shown", x.count(2), 2);
        c.same("seen", x.count(3), 2);
        c.same("trace", x.trace(), 2);
        c.same("letters", x.count(4), 2);
        x.clean();
        x.back(0);
        c.same("shown", x.count(2), 0);
        c.same("seen", x.count(3), 0);
        x.keep(1);
        x.clear();
        x.back(1);
        c.same("letters", x.count(4), 0);
    }

    private static void imagesNotUndone() {
        c.part("(nothing can be UNDONE behind back())");
        UnsaidScales x = Shops.told("p1 0 0 0;p2 0 0 0;");
        days(x, 12);
        x.keep(0);
        c.same("keep leaves it", x.now(6), 10);
        c.same("a refused back", x.back(1), STATE);
        c.same("leaves it", x.now(6), 10);
        c.same("another one", x.back(2), BAD);
        c.same("leaves it", x.now(6), 10);
        c.same("back", x.back(0), 12);
        c.same("none", x.now(6), 0);
        c.same("undo", x.undo(), STATE);
        c.same("day", x.now(0), 12);
        x.day();
        c.same("what is done behind it", x.undo(), 0);
        c.same("day", x.now(0), 12);
        c.same("no more", x.undo(), STATE);
    }

    private static UnsaidScales used() {
        UnsaidScales x = Shops.told("s0 7;p1 2 3 4;p5 6 7 8;g0 0 3;b5;b6;");
        x.weighs(0, 1);
        days(x, 3);
        x.shows(0, 100, 1);
        x.saw(0, 21);
        x.keep(0);
        x.keep(1);
        x.rate(5, 0);
        // What was made up for the old weights must not stay.
        c.same("can", x.can(0, 2), 9 * (7 + 4 + 9 + 16));
        c.same("orders", x.now(2), 1);
        return x;
    }

    private static void gone(UnsaidScales x) {
        c.same("day", x.now(0), 0);
        c.same("pairs", x.now(1), 0);
        c.same("may be undone", x.now(6), 0);
        c.same("undo", x.undo(), STATE);
        c.same("shown", x.count(2), 0);
        c.same("seen", x.count(3), 0);
        c.same("letters", x.count(4), 0);
        c.same("image 0", x.back(0), STATE);
        c.same("image 1", x.back(1), STATE);
        c.same("trace is not among it", x.trace(), 100001);
        c.same("clean", x.clean(), 0);
    }

    private static void readAnew() {
        c.part("(Read anew: as told, DAY 0, nothing known, SHOWN, SEEN, IMAGES are gone.)");
        UnsaidScales x = used();
        c.same("shop", Shops.read(x, "p0 0 0 1;p0 0 0 0;"), 2);
        c.same("known", x.known(0, 1), NONE);
        c.same("held", Shops.allHeld(x, 0), 1);
        c.same("held", Shops.allHeld(x, 1), 0);
        c.same("grows", x.grows(0, 0), 0);
        c.same("weight", x.weight(0), 1);
        c.same("pieces", x.count(1), 0);
        c.same("piece", x.weight(4), NONE);
        c.same("range", x.now(5), 0);
        c.same("brass", x.brass(5, 0), NONE);
        c.same("can", x.can(0, 0), 10000);
        c.same("can, the greatest", x.can(0, 2), 270);
        c.same("laws", x.laws(0, 0), 256);
        gone(x);
    }

    private static void readAnewByNothing() {
        c.part("(Read anew, by an empty text)");
        UnsaidScales x = used();
        c.same("shop", x.shop(), 0);
        c.same("people", x.count(0), 0);
        c.same("pieces", x.count(1), 0);
        c.same("weight", x.weight(0), 1);
        c.same("orders", x.now(2), 1);
        c.same("holds", x.holds(0, 0), BAD);
        gone(x);
    }

    private static void constants() {
        c.part("the constants");
        c.same("BAD", UnsaidScales.BAD, -1);
        c.same("STATE", UnsaidScales.STATE, -2);
        c.same("FULL", UnsaidScales.FULL, -3);
        c.same("NONE", UnsaidScales.NONE, -9);
        c.same("NO", UnsaidScales.NO, -1000000);
    }
}
