/** Counts and prints the answers that are not the ones that are due. */
final class Check {
    private static final int PRINTED_AT_MOST = 40;
    private final String name;
    private String sentence = "";
    private int sentences = 0;
    private int asked = 0;
    private int wrong = 0;

    Check(String name) {
        this.name = name;
    }

    /** The document's sentence that the answers from here on are due by. */
    void sentence(String words) {
        sentence = "[" + words + "] ";
        sentences++;
    }

    void due(String call, long got, long want) {
        asked++;
        if (got != want) {
            wrong++;
            if (wrong <= PRINTED_AT_MOST) {
                System.out.println(name + ": " + sentence + call + " answered " + got + ", due is " + want);
            }
        }
    }

    void holds(String what, boolean is) {
        due(what, is ? 1 : 0, 1);
    }

    void end() {
        String by = sentences > 0 ? " by " + sentences + " sentences" : "";
        System.out.println(name + ": " + asked + " answers" + by + ", " + wrong + " not as due");
        if (wrong != 0) {
            System.exit(1);
        }
    }
}
