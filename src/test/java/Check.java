/** Counts the answers that are not as due, and tells them. */
final class Check {
    private final String name;
    private String sentence = "";
    private int looked;
    private int wrong;

    Check(String name) {
        this.name = name;
    }

    /** What the document says of all that is looked at from here on. */
    void says(String itsWords) {
        sentence = " [" + itsWords + "]";
    }

    void due(String call, long got, long want) {
        looked++;
        if (got != want) {
            wrong++;
            System.out.println(name + sentence + ": " + call + " answered " + got + ", due is " + want);
        }
    }

    void isTrue(String what, boolean is) {
        due(what, is ? 1 : 0, 1);
    }

    int looks() {
        return looked;
    }

    int wrongs() {
        return wrong;
    }

    void end() {
        System.out.println(name + ": " + looked + " answers, " + wrong + " not as due");
        if (wrong != 0 || looked == 0) {
            System.exit(1);
        }
    }
}
