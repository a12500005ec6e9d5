/** Objects of the class, and texts that are typed into them. */
final class Shops {
    private Shops() {
    }

    static void typeAll(UnsaidScales x, String text) {
        for (int i = 0; i < text.length(); i++) {
            x.type(text.charAt(i));
        }
    }

    /** What shop() answers to a text on an object whose own text is empty. */
    static int read(UnsaidScales x, String text) {
        x.clear();
        typeAll(x, text);
        return x.shop();
    }

    static UnsaidScales told(String text) {
        UnsaidScales x = new UnsaidScales();
        int items = read(x, text);
        if (items < 0) {
            throw new IllegalStateException("a test's own text has a fault: " + text + " " + items);
        }
        return x;
    }

    /** A number of four figures: what he holds by sorts. */
    static int allHeld(UnsaidScales x, int p) {
        return x.holds(p, 0) * 1000 + x.holds(p, 1) * 100 + x.holds(p, 2) * 10 + x.holds(p, 3);
    }
}
