/** ORDERS, WORST and NEXT for everything that can be known of the pairs of 0 to 4 people. */
public final class AllPairsTest {
    private static final int NOT_KNOWN = 3;

    public static void main(String[] args) {
        Check check = new Check("AllPairsTest");
        for (int people = 0; people <= 4; people++) {
            int pairs = people * (people - 1) / 2;
            for (int code = 0; code < 1 << (2 * pairs); code++) {
                compare(check, people, code);
            }
        }
        check.end();
    }

    private static void compare(Check check, int people, int code) {
        check.part(people + " people, code " + code);
        UnsaidScales x = new UnsaidScales();
        SlowModel m = new SlowModel();
        String text = "p5 0 0 0;".repeat(people);
        for (int i = 0; i < text.length(); i++) {
            x.type(text.charAt(i));
            m.type(text.charAt(i));
        }
        x.shop();
        m.shop();
        int rest = code;
        for (int p = 0; p < people; p++) {
            for (int q = p + 1; q < people; q++) {
                find(x, m, p, q, rest % 4);
                rest /= 4;
            }
        }
        for (int what = 1; what <= 4; what++) {
            check.same("now " + what, x.now(what), m.now(what));
        }
    }

    /** A thing of SORT 0 that is told is gone: all hold five of them again behind it. */
    private static void find(UnsaidScales x, SlowModel m, int p, int q, int found) {
        if (found == NOT_KNOWN) {
            return;
        }
        int heavier = found == 1 ? p : q;
        int lighter = found == 1 ? q : p;
        if (found != 0) {
            x.keeps(heavier, 0);
            m.keeps(heavier, 0);
        }
        x.weighs(p, q);
        m.weighs(p, q);
        if (found != 0) {
            x.tells(heavier, lighter, 0);
            m.tells(heavier, lighter, 0);
        }
    }
}
