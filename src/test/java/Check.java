import java.util.Objects;

/** Counts the answers that are not as due and prints each of them. */
final class Check {
    private int asked = 0;
    private int wrong = 0;
    private int sentences = 0;
    private int askedBefore = 0;
    private String sentence = "";

    /** What is asked from now on is asked for this sentence of the document. */
    void sentence(String words) {
        endSentence();
        sentence = words;
        sentences++;
        askedBefore = asked;
    }

    private void endSentence() {
        if (sentences > 0 && asked == askedBefore) {
            wrong++;
            System.out.println("nothing was asked for: " + sentence);
        }
    }

    void due(String what, Object got, Object want) {
        asked++;
        if (!Objects.equals(got, want)) {
            wrong++;
            System.out.println((sentence.isEmpty() ? "" : "[" + sentence + "] ") + what
                    + " answered " + got + ", due is " + want);
        }
    }

    boolean failed() {
        return wrong > 0;
    }

    void end() {
        endSentence();
        System.out.println((sentences > 0 ? sentences + " sentences, " : "") + asked
                + " answers asked, " + wrong + " not as due");
        if (wrong > 0 || asked == 0) {
            System.exit(1);
        }
    }
}
