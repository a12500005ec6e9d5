import java.util.EnumSet;
import java.util.Set;

/**
 * What the state of an object is made of. Each part is looked at by calls alone; as some of these
 * calls change the object (undo, back, shop), each part is looked at on an object of its own, and
 * none of them takes more than 300 calls.
 */
enum Aspect {
    SHOP, MOMENT, UNDONE, IMAGES, SHOWN, SEEN, TEXT, TRACE;

    static Set<Aspect> none() {
        return EnumSet.noneOf(Aspect.class);
    }

    String of(UnsaidScales x) {
        StringBuilder seen = new StringBuilder();
        switch (this) {
            case SHOP -> lookAtShop(x, seen);
            case MOMENT -> lookAtMoment(x, seen);
            case UNDONE -> lookAtUndone(x, seen);
            case IMAGES -> lookAtImages(x, seen);
            case SHOWN -> lookAtShown(x, seen);
            case SEEN -> lookAtSeen(x, seen);
            case TEXT -> lookAtText(x, seen);
            default -> put(seen, x.trace());
        }
        return seen.toString();
    }

    private static void put(StringBuilder seen, long answer) {
        seen.append(answer).append(' ');
    }

    private static void lookAtShop(UnsaidScales x, StringBuilder seen) {
        put(seen, x.count(0));
        put(seen, x.count(1));
        for (int what = 0; what < 9; what++) {
            put(seen, x.weight(what));
        }
        for (int p = 0; p < 4; p++) {
            for (int s = 0; s < 4; s++) {
                put(seen, x.grows(p, s));
            }
        }
        for (int v = 0; v < 20; v++) {
            put(seen, x.brass(v, 1));
        }
        put(seen, x.now(5));
    }

    private static void lookAtMoment(UnsaidScales x, StringBuilder seen) {
        put(seen, x.now(0));
        for (int p = 0; p < 4; p++) {
            for (int s = 0; s < 4; s++) {
                put(seen, x.holds(p, s));
            }
        }
        for (int p = 0; p < 4; p++) {
            for (int q = p + 1; q < 4; q++) {
                put(seen, x.known(p, q));
            }
        }
    }

    private static void lookAtUndone(UnsaidScales x, StringBuilder seen) {
        put(seen, x.now(6));
        for (int i = 0; i < 11; i++) {
            int left = x.undo();
            put(seen, left);
            if (left >= 0) {
                lookAtMoment(x, seen);
            }
        }
    }

    private static void lookAtImages(UnsaidScales x, StringBuilder seen) {
        for (int image = 0; image < 2; image++) {
            int day = x.back(image);
            put(seen, day);
            if (day >= 0) {
                lookAtMoment(x, seen);
            }
        }
    }

    private static void lookAtShown(UnsaidScales x, StringBuilder seen) {
        put(seen, x.count(2));
        for (int p = 0; p < 4; p++) {
            for (int what = 0; what < 3; what++) {
                put(seen, x.can(p, what));
            }
        }
        for (int i = 0; i < 7; i++) {
            put(seen, x.shows(0, 0, 1));
        }
    }

    private static void lookAtSeen(UnsaidScales x, StringBuilder seen) {
        put(seen, x.count(3));
        for (int p = 0; p < 4; p++) {
            put(seen, x.laws(p, 0));
            put(seen, x.laws(p, 1));
        }
        for (int i = 0; i < 7; i++) {
            put(seen, x.saw(0, 0));
        }
    }

    /** What stands in the text shows only when it is read. */
    private static void lookAtText(UnsaidScales x, StringBuilder seen) {
        put(seen, x.count(4));
        int items = x.shop();
        put(seen, items);
        if (items >= 0) {
            lookAtShop(x, seen);
            lookAtMoment(x, seen);
        }
        put(seen, x.clear());
    }
}
