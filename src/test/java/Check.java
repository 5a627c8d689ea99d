import java.util.Objects;

/** Counts the answers that are not as due and prints each of them. */
final class Check {
    private int asked = 0;
    private int wrong = 0;

    void due(String what, Object got, Object want) {
        asked++;
        if (!Objects.equals(got, want)) {
            wrong++;
            System.out.println(what + " answered " + got + ", due is " + want);
        }
    }

    boolean failed() {
        return wrong > 0;
    }

    void end() {
        System.out.println(asked + " answers asked, " + wrong + " not as due");
        if (wrong > 0 || asked == 0) {
            System.exit(1);
        }
    }
}
