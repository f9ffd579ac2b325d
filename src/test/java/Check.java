/** Counts what a test asks, prints every answer that is not the one that is due, and ends with exit code 1 then. */
final class Check {
    private final String name;
    private String sentence = "";
    private int askedOfSentence = 1;
    private int sentences;
    private int asked;
    private int wrong;

    Check(String name) {
        this.name = name;
    }

    /** What is asked from here on is asked of these words of the document. */
    Check about(String words) {
        refuseEmptySentence();
        sentence = "\"" + words + "\": ";
        sentences++;
        askedOfSentence = 0;
        return this;
    }

    void due(String what, long got, long want) {
        asked++;
        askedOfSentence++;
        if (got != want) {
            wrong++;
            System.out.println(name + ": " + sentence + what + " answered " + got + ", due is " + want);
        }
    }

    void due(String what, boolean got, boolean want) {
        due(what, got ? 1 : 0, want ? 1 : 0);
    }

    void end() {
        refuseEmptySentence();
        System.out.println(name + ": " + (sentences == 0 ? "" : sentences + " sentences, ") + asked + " asked, " + wrong + " wrong");
        if (wrong != 0 || asked == 0) {
            System.exit(1);
        }
    }

    private void refuseEmptySentence() {
        if (askedOfSentence == 0) {
            wrong++;
            System.out.println(name + ": " + sentence + "nothing was asked");
        }
    }
}
