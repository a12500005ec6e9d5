/** Counts answers that are not as due, and prints each. */
final class Check {
    private final String name;
    private String part = "";
    private int asked = 0;
    private int wrong = 0;

    Check(String name) {
        this.name = name;
    }

    void part(String title) {
        part = title;
    }

    void same(String what, long got, long due) {
        asked++;
        if (got != due) {
            wrong++;
            System.out.println(part + ": " + what + " answered " + got + ", due is " + due);
        }
    }

    void that(String what, boolean holds) {
        asked++;
        if (!holds) {
            wrong++;
            System.out.println(part + ": not so: " + what);
        }
    }

    boolean allRight() {
        return wrong == 0;
    }

    /** Ends the test with 1 if an answer was wrong, or if nothing was asked at all. */
    void end() {
        System.out.println(name + ": " + asked + " asked, " + wrong + " wrong");
        if (wrong != 0 || asked == 0) {
            System.exit(1);
        }
    }
}
