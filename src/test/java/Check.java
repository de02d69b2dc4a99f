/** Counts and prints the answers that are not the ones that are due. */
final class Check {
    private static final int PRINTED_AT_MOST = 40;
    private final String name;
    private int asked = 0;
    private int wrong = 0;

    Check(String name) {
        this.name = name;
    }

    void due(String call, long got, long want) {
        asked++;
        if (got != want) {
            wrong++;
            if (wrong <= PRINTED_AT_MOST) {
                System.out.println(name + ": " + call + " answered " + got + ", due is " + want);
            }
        }
    }

    void holds(String what, boolean is) {
        due(what, is ? 1 : 0, 1);
    }

    void end() {
        System.out.println(name + ": " + asked + " answers, " + wrong + " not as due");
        if (wrong != 0) {
            System.exit(1);
        }
    }
}
