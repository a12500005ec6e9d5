import java.util.EnumSet;
import java.util.Set;
import java.util.function.Consumer;
import java.util.function.ToLongFunction;

/**
 * "Refused, and nothing changes": each refused call, its answer, and that an object behind it is as
 * its twin that was never called so; and of calls that are not refused, that they change no more
 * than what the document says they do.
 */
public final class RefusedTest {
    private static final int BAD = -1, STATE = -2, FULL = -3, NO = -1000000;
    private static final Check c = new Check("RefusedTest");

    private interface Call {
        long on(UnsaidScales x, int[] a);
    }

    public static void main(String[] args) {
        asked();
        done();
        recorded();
        alikeOnes();
        refusedByState();
        refusedAsFull();
        badFirst();
        faults();
        withoutArguments();
        c.end();
    }

    /** Three people, brass, things done, shown, seen, an image, a text not yet read. */
    private static void rich(UnsaidScales x) {
        Shops.read(x, "s0 2;s3 5;p1 9 2 3;p2 1 9 1;p1 0 2 9;g0 0 1;g2 2 3;b1;b3;b9;");
        x.weighs(0, 1);
        x.keeps(0, 3);
        x.day();
        x.keep(0);
        x.tells(0, 1, 3);
        x.weighs(2, 1);
        x.shows(0, 40, 1);
        x.shows(1, 300, 2);
        x.saw(0, 2);
        x.rate(3, 0);
        Shops.typeAll(x, "s1 7;p5 5 5 5;b9;");
    }

    private static void fullOfRecords(UnsaidScales x) {
        rich(x);
        for (int i = 0; i < 7; i++) {
            x.shows(i % 3, 200 + i, 2);
            x.saw(i % 3, 10 + i);
        }
    }

    private static void fullText(UnsaidScales x) {
        rich(x);
        x.clear();
        Shops.typeAll(x, "s1 7;p5 5 5 5;" + " ".repeat(133) + "b9;");
    }

    private static void fullHistory(UnsaidScales x) {
        rich(x);
        for (int i = 0; i < 4; i++) {
            x.tells(0, 1, 1);
            x.day();
        }
    }

    private static UnsaidScales made(Consumer<UnsaidScales> state) {
        UnsaidScales x = new UnsaidScales();
        state.accept(x);
        return x;
    }

    /** All parts but those that may change must be as on an object that was not called so. */
    private static void leaves(String name, Consumer<UnsaidScales> state, ToLongFunction<UnsaidScales> call,
            Set<Aspect> mayChange) {
        for (Aspect aspect : Aspect.values()) {
            if (!mayChange.contains(aspect)) {
                UnsaidScales called = made(state);
                call.applyAsLong(called);
                String got = aspect.of(called);
                String due = aspect.of(made(state));
                c.that(name + " leaves " + aspect + " as it was: " + due + ", not " + got, got.equals(due));
            }
        }
    }

    private static void refused(String name, Consumer<UnsaidScales> state, ToLongFunction<UnsaidScales> call, long due) {
        c.same(name, call.applyAsLong(made(state)), due);
        leaves(name, state, call, Aspect.none());
    }

    private static String named(String name, int[] a) {
        StringBuilder text = new StringBuilder(name);
        for (int argument : a) {
            text.append(' ').append(argument);
        }
        return text.toString();
    }

    /**
     * Each argument by itself: the last number on each side that is good, the first that is not, and
     * those that are far off.
     */
    private static void bounds(String name, Call call, long refusal, Set<Aspect> mayChange, int[]... ranges) {
        for (int i = 0; i < ranges.length; i++) {
            int least = ranges[i][0];
            int most = ranges[i][1];
            for (int number : new int[] {least, most}) {
                int[] a = arguments(ranges, i, number);
                c.that(named(name, a) + " is not refused as BAD", call.on(made(RefusedTest::rich), a) != refusal);
                leaves(named(name, a), RefusedTest::rich, x -> call.on(x, a), mayChange);
            }
            for (int number : new int[] {least - 1, most + 1, Integer.MIN_VALUE, Integer.MAX_VALUE,
                    least + (1 << 16), most - (1 << 16), least + (1 << 8), least - (1 << 8)}) {
                if (number < least || number > most) {
                    int[] a = arguments(ranges, i, number);
                    refused(named(name, a), RefusedTest::rich, x -> call.on(x, a), refusal);
                }
            }
        }
    }

    private static int[] arguments(int[][] ranges, int changed, int number) {
        int[] a = new int[ranges.length];
        for (int i = 0; i < a.length; i++) {
            a[i] = 1;
        }
        // Two people must not be alike; where one of them is the changed one, he never is 1.
        if (changed > 1) {
            a[0] = 0;
        }
        a[changed] = number;
        return a;
    }

    private static final int[] PEOPLE = {0, 2};
    private static final int[] SORTS = {0, 3};

    /** "(Nothing is changed.)": what is only asked. */
    private static void asked() {
        c.part("asked");
        Set<Aspect> none = Aspect.none();
        bounds("holds", (x, a) -> x.holds(a[0], a[1]), BAD, none, PEOPLE, SORTS);
        bounds("grows", (x, a) -> x.grows(a[0], a[1]), BAD, none, PEOPLE, SORTS);
        bounds("weight", (x, a) -> x.weight(a[0]), BAD, none, new int[] {0, 8});
        bounds("heavy", (x, a) -> x.heavy(a[0]), BAD, none, PEOPLE);
        bounds("known", (x, a) -> x.known(a[0], a[1]), BAD, none, PEOPLE, PEOPLE);
        bounds("now", (x, a) -> x.now(a[0]), BAD, none, new int[] {0, 6});
        bounds("beam", (x, a) -> x.beam(a[0], a[1]), NO, none, PEOPLE, PEOPLE);
        bounds("level", (x, a) -> x.level(a[0], a[1], a[2]), BAD, none, PEOPLE, PEOPLE, new int[] {0, 9});
        bounds("when", (x, a) -> x.when(a[0], a[1]), BAD, none, PEOPLE, PEOPLE);
        bounds("odds", (x, a) -> x.odds(a[0], a[1], a[2], a[3], a[4]), BAD, none, PEOPLE, PEOPLE, SORTS,
            new int[] {0, 10}, new int[] {0, 1});
        bounds("brass", (x, a) -> x.brass(a[0], a[1]), BAD, none, new int[] {0, 300}, new int[] {0, 2});
        bounds("can", (x, a) -> x.can(a[0], a[1]), BAD, none, PEOPLE, new int[] {0, 2});
        bounds("laws", (x, a) -> x.laws(a[0], a[1]), BAD, none, PEOPLE, new int[] {0, 1});
        bounds("count", (x, a) -> x.count(a[0]), BAD, none, new int[] {0, 4});
        for (int what = 0; what <= 6; what++) {
            int w = what;
            leaves("now " + w, RefusedTest::rich, x -> x.now(w), none);
        }
        for (int what = 0; what <= 9; what++) {
            int w = what;
            leaves("level " + w, RefusedTest::rich, x -> x.level(0, 1, w), none);
        }
    }

    /** What is done changes NOW and what may be UNDONE; images, what is kept there. */
    private static void done() {
        c.part("done");
        Set<Aspect> now = EnumSet.of(Aspect.MOMENT, Aspect.UNDONE);
        bounds("tells", (x, a) -> x.tells(a[0], a[1], a[2]), BAD, now, PEOPLE, PEOPLE, SORTS);
        bounds("keeps", (x, a) -> x.keeps(a[0], a[1]), BAD, now, PEOPLE, SORTS);
        bounds("weighs", (x, a) -> x.weighs(a[0], a[1]), BAD, now, PEOPLE, PEOPLE);
        bounds("back", (x, a) -> x.back(a[0]), BAD, now, new int[] {0, 1});
        bounds("keep", (x, a) -> x.keep(a[0]), BAD, EnumSet.of(Aspect.IMAGES), new int[] {0, 1});
        bounds("rate", (x, a) -> x.rate(a[0], a[1]), NO, EnumSet.of(Aspect.TRACE), new int[] {0, 5}, PEOPLE);
    }

    private static void recorded() {
        c.part("recorded");
        bounds("shows", (x, a) -> x.shows(a[0], a[1], a[2]), BAD, EnumSet.of(Aspect.SHOWN), PEOPLE,
            new int[] {0, 720}, new int[] {0, 2});
        bounds("saw", (x, a) -> x.saw(a[0], a[1]), BAD, EnumSet.of(Aspect.SEEN), PEOPLE, new int[] {0, 240});
        bounds("type", (x, a) -> x.type(a[0]), BAD, EnumSet.of(Aspect.TEXT), new int[] {0, 255});
    }

    private static void withoutArguments() {
        c.part("without arguments");
        Set<Aspect> now = EnumSet.of(Aspect.MOMENT, Aspect.UNDONE);
        leaves("day", RefusedTest::rich, x -> x.day(), now);
        leaves("forgets", RefusedTest::rich, x -> x.forgets(), now);
        leaves("undo", RefusedTest::rich, x -> x.undo(), now);
        leaves("clear", RefusedTest::rich, x -> x.clear(), EnumSet.of(Aspect.TEXT));
        leaves("clean", RefusedTest::rich, x -> x.clean(), EnumSet.of(Aspect.SHOWN, Aspect.SEEN));
        leaves("trace", RefusedTest::rich, x -> x.trace(), Aspect.none());
        leaves("shop", RefusedTest::rich, x -> x.shop(), EnumSet.complementOf(EnumSet.of(Aspect.TRACE)));
        // Nothing of what is told, or only what leaves it as it was, is still nothing changed.
        leaves("clear of nothing", RefusedTest::justMade, x -> x.clear(), Aspect.none());
        leaves("clean of nothing", RefusedTest::justMade, x -> x.clean(), Aspect.none());
        leaves("shop of nothing", RefusedTest::justMade, x -> x.shop(), Aspect.none());
        leaves("forgets and undo", RefusedTest::rich, x -> x.forgets() + x.undo(), Aspect.none());
        leaves("day and undo", RefusedTest::rich, x -> x.day() + x.undo(), Aspect.none());
        leaves("tells and undo", RefusedTest::rich, x -> x.tells(0, 2, 3) + x.undo(), Aspect.none());
        leaves("tells, lost, and undo", RefusedTest::rich, x -> x.tells(0, 1, 3) + x.undo(), Aspect.none());
        leaves("keeps and undo", RefusedTest::rich, x -> x.keeps(0, 0) + x.undo(), Aspect.none());
        leaves("weighs and undo", RefusedTest::rich, x -> x.weighs(0, 2) + x.undo(), Aspect.none());
        leaves("weighs again and undo", RefusedTest::rich, x -> x.weighs(1, 0) + x.undo(), Aspect.none());
    }

    private static void justMade(UnsaidScales x) {
        c.that("an object", x != null);
    }

    /** "BAD (alike ones, too)", also of those that there are not. */
    private static void alikeOnes() {
        c.part("alike ones");
        for (int p = -1; p <= 3; p++) {
            int a = p;
            refused("known " + a, RefusedTest::rich, x -> x.known(a, a), BAD);
            refused("tells " + a, RefusedTest::rich, x -> x.tells(a, a, 2), BAD);
            refused("weighs " + a, RefusedTest::rich, x -> x.weighs(a, a), BAD);
            refused("beam " + a, RefusedTest::rich, x -> x.beam(a, a), NO);
            refused("level " + a, RefusedTest::rich, x -> x.level(a, a, 0), BAD);
            refused("when " + a, RefusedTest::rich, x -> x.when(a, a), BAD);
            refused("odds " + a, RefusedTest::rich, x -> x.odds(a, a, 0, 5, 0), BAD);
        }
    }

    private static void refusedByState() {
        c.part("STATE");
        refused("tells, he holds none", RefusedTest::rich, x -> x.tells(2, 0, 1), STATE);
        refused("keeps, he holds 9", RefusedTest::rich, x -> x.keeps(0, 1), STATE);
        refused("keeps, he holds 9", RefusedTest::rich, x -> x.keeps(2, 3), STATE);
        refused("back, none was kept", RefusedTest::rich, x -> x.back(1), STATE);
        refused("back 0 of a new object", RefusedTest::justMade, x -> x.back(0), STATE);
        refused("back 1 of a new object", RefusedTest::justMade, x -> x.back(1), STATE);
        refused("undo of a new object", RefusedTest::justMade, x -> x.undo(), STATE);
        refused("undo behind back", x -> {
            rich(x);
            x.back(0);
        }, x -> x.undo(), STATE);
        refused("undo behind shop", x -> {
            rich(x);
            x.shop();
        }, x -> x.undo(), STATE);
        refused("undo behind ten", x -> {
            fullHistory(x);
            for (int i = 0; i < 10; i++) {
                x.undo();
            }
        }, x -> x.undo(), STATE);
        refused("keeps a tenth, with ten to undo", RefusedTest::fullHistory, x -> x.keeps(2, 3), STATE);
    }

    private static void refusedAsFull() {
        c.part("FULL");
        refused("shows", RefusedTest::fullOfRecords, x -> x.shows(0, 0, 1), FULL);
        refused("shows of another one", RefusedTest::fullOfRecords, x -> x.shows(2, 720, 2), FULL);
        refused("saw", RefusedTest::fullOfRecords, x -> x.saw(0, 0), FULL);
        refused("saw of another one", RefusedTest::fullOfRecords, x -> x.saw(2, 240), FULL);
        refused("type", RefusedTest::fullText, x -> x.type('x'), FULL);
        refused("type of a blank", RefusedTest::fullText, x -> x.type(' '), FULL);
        refused("type of 0", RefusedTest::fullText, x -> x.type(0), FULL);
    }

    /** "the first of these: BAD .., STATE .., FULL". */
    private static void badFirst() {
        c.part("BAD ahead of the others");
        refused("tells none to himself", RefusedTest::rich, x -> x.tells(2, 2, 1), BAD);
        refused("tells none to no one", RefusedTest::rich, x -> x.tells(2, 3, 1), BAD);
        refused("keeps a tenth of no sort", RefusedTest::rich, x -> x.keeps(0, 4), BAD);
        refused("back to no image", RefusedTest::justMade, x -> x.back(2), BAD);
        refused("back to no image", RefusedTest::justMade, x -> x.back(-1), BAD);
        refused("shows of no one", RefusedTest::fullOfRecords, x -> x.shows(3, 0, 1), BAD);
        refused("shows against too much", RefusedTest::fullOfRecords, x -> x.shows(0, 721, 1), BAD);
        refused("shows what can't be", RefusedTest::fullOfRecords, x -> x.shows(0, 0, 3), BAD);
        refused("saw of no one", RefusedTest::fullOfRecords, x -> x.saw(3, 0), BAD);
        refused("saw too much", RefusedTest::fullOfRecords, x -> x.saw(0, 241), BAD);
        refused("type of 256", RefusedTest::fullText, x -> x.type(256), BAD);
        refused("type of -1", RefusedTest::fullText, x -> x.type(-1), BAD);
    }

    /** "-10 less FAULT: nothing changes", and the text stays, too. */
    private static void faults() {
        c.part("FAULT");
        fault("x", 0);
        fault("s0 9;p1 1 1 1;g0 0 2;b5;x", 24);
        fault("s0 9;p1 1 1 1;g0 0 2;b5;s0", 26);
        fault("p1 1 1 1;p2 2 2 2;p3 3 3 3;p4 4 4 4;p", 36);
        fault("b1;b2;b3;b4;b5;b", 15);
        fault("s0 9;s1 21;", 8);
        fault("p1 1 1 1;g1 0 1;", 10);
        fault("p1 1 1 1;p1 1 1 10;", 16);
        fault("b5;" + " ".repeat(146) + "x", 149);
        fault("b5;" + " ".repeat(146) + "b", 150);
    }

    private static void fault(String text, int place) {
        refused("shop of '" + text + "'", x -> {
            rich(x);
            x.clear();
            Shops.typeAll(x, text);
        }, x -> x.shop(), -10 - place);
    }
}
