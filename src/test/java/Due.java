/** Counts and prints the answers that are not the ones that are due. */
final class Due {
    private final String test;
    private int wrong = 0;
    private int asked = 0;
    private String sentence = "";

    Due(String test) {
        this.test = test;
    }

    /** The words of the document that the answers from here on are due by. */
    void says(String words) {
        sentence = " '" + words + "':";
    }

    void is(String call, long got, long want) {
        asked++;
        if (got != want) {
            wrong++;
            System.out.println(test + ":" + sentence + " " + call + " answered " + got + ", due is " + want);
        }
    }

    void holds(String what, boolean held) {
        is(what, held ? 1 : 0, 1);
    }

    void end() {
        System.out.println(test + ": " + asked + " answers, " + wrong + " not as due");
        if (wrong != 0) {
            System.exit(1);
        }
    }
}
