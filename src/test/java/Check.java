/** Counts answers that are not as due and prints them. */
final class Check {
    private final String name;
    private int asked;
    private int wrong;

    Check(String name) {
        this.name = name;
    }

    void due(String call, long got, long want) {
        asked++;
        if (got != want) {
            wrong++;
            System.out.println(name + ": " + call + " answered " + got + ", due is " + want);
        }
    }

    void isTrue(String what, boolean stands) {
        due(what, stands ? 1 : 0, 1);
    }

    boolean failed() {
        return wrong > 0;
    }

    /** Ends the program: with 1 if an answer was wrong or none was asked for. */
    void end() {
        System.out.println(name + ": " + asked + " answers looked at, " + wrong + " wrong");
        System.exit(wrong > 0 || asked == 0 ? 1 : 0);
    }
}
