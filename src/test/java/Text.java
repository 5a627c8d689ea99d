import java.util.ArrayList;
import java.util.List;

/**
 * Paragraphs as texts. A word is a kind, or one of ( ) [ ] { } for a bracket of kind ON; behind it
 * may stand /GROUP and :WIDTH (WORD and 1 if they do not). Answers for all places are texts too.
 */
final class Text {
    static final List<String> KINDS = List.of("L", "R", "AL", "EN", "ES", "ET", "AN", "CS", "NSM",
            "WS", "S", "ON", "LRE", "RLE", "LRO", "RLO", "PDF", "LRI", "RLI", "FSI", "PDI");
    static final List<String> GROUPS = List.of("WORD", "BLANK", "OPENING", "CLOSING", "GLUE",
            "FREE", "HYPHEN");
    private static final String OPEN = "([{";
    private static final String CLOSE = ")]}";

    private Text() {
    }

    static TwoWayLines of(int base, String text) {
        return of(base, 100, text);
    }

    static TwoWayLines of(int base, int measure, String text) {
        TwoWayLines x = new TwoWayLines();
        if (!x.base(base) || !x.measure(measure)) {
            throw new IllegalArgumentException("base " + base + ", measure " + measure);
        }
        put(x, text);
        return x;
    }

    static void put(TwoWayLines x, String text) {
        for (int[] one : characters(text)) {
            if (!x.add(one[0], one[1], one[2], one[3])) {
                throw new IllegalArgumentException(text);
            }
        }
    }

    /** Kind, group, width and pair of each word. */
    static List<int[]> characters(String text) {
        List<int[]> all = new ArrayList<>();
        for (String word : text.split(" ")) {
            all.add(character(word));
        }
        return all;
    }

    private static int[] character(String word) {
        String[] halves = word.split(":");
        int width = halves.length > 1 ? Integer.parseInt(halves[1]) : 1;
        String[] parts = halves[0].split("/");
        int group = parts.length > 1 ? GROUPS.indexOf(parts[1]) : 0;
        int pair = OPEN.indexOf(parts[0]) + 1 - (CLOSE.indexOf(parts[0]) + 1);
        return new int[] {KINDS.indexOf(pair == 0 ? parts[0] : "ON"), group, width, pair};
    }

    static String types(TwoWayLines x) {
        StringBuilder all = new StringBuilder();
        for (int place = 0; place < x.length(); place++) {
            int type = x.type(place);
            all.append(place == 0 ? "" : " ").append(type == -1 ? "-" : KINDS.get(type));
        }
        return all.toString();
    }

    static String levels(TwoWayLines x) {
        StringBuilder all = new StringBuilder();
        for (int place = 0; place < x.length(); place++) {
            all.append(place == 0 ? "" : " ").append(x.level(place));
        }
        return all.toString();
    }

    static String shownLevels(TwoWayLines x) {
        StringBuilder all = new StringBuilder();
        for (int place = 0; place < x.length(); place++) {
            all.append(place == 0 ? "" : " ").append(x.shownLevel(place));
        }
        return all.toString();
    }

    static String matches(TwoWayLines x) {
        StringBuilder all = new StringBuilder();
        for (int place = 0; place < x.length(); place++) {
            int match = x.match(place);
            all.append(place == 0 ? "" : " ").append(match == -1 ? "-" : "" + match);
        }
        return all.toString();
    }

    static String partners(TwoWayLines x) {
        StringBuilder all = new StringBuilder();
        for (int place = 0; place < x.length(); place++) {
            int partner = x.partner(place);
            all.append(place == 0 ? "" : " ").append(partner == -1 ? "-" : "" + partner);
        }
        return all.toString();
    }

    /** The places before which a line may be broken. */
    static String breaks(TwoWayLines x) {
        StringBuilder all = new StringBuilder();
        for (int place = 0; place < x.length(); place++) {
            if (x.mayBreak(place)) {
                all.append(all.length() == 0 ? "" : " ").append(place);
            }
        }
        return all.toString();
    }

    /** The lines' starts with their extents, and the end of the last one. */
    static String lines(TwoWayLines x) {
        StringBuilder all = new StringBuilder();
        for (int line = 0; line < x.lines(); line++) {
            all.append(x.start(line)).append("=").append(x.extent(line)).append(" ");
        }
        return all.append(x.start(x.lines())).toString();
    }

    static String order(TwoWayLines x, int line) {
        StringBuilder all = new StringBuilder();
        for (int k = 0; x.shown(line, k) != TwoWayLines.NONE; k++) {
            all.append(k == 0 ? "" : " ").append(x.shown(line, k));
        }
        return all.toString();
    }

    /** Every answer that the object gives, so that two states can be held against one another. */
    static String everything(TwoWayLines x) {
        StringBuilder all = new StringBuilder();
        all.append(x.length()).append(" characters, level ").append(x.paragraphLevel());
        all.append("; types ").append(types(x)).append("; levels ").append(levels(x));
        all.append("; matches ").append(matches(x)).append("; partners ").append(partners(x));
        all.append("; breaks ").append(breaks(x)).append("; lines ").append(lines(x));
        all.append("; shown levels ").append(shownLevels(x)).append("; mirrored ");
        all.append(mirrored(x)).append("; orders");
        for (int line = 0; line < x.lines(); line++) {
            all.append(" ").append(order(x, line)).append(";");
        }
        return all.toString();
    }

    static String mirrored(TwoWayLines x) {
        StringBuilder all = new StringBuilder();
        for (int place = 0; place < x.length(); place++) {
            if (x.mirrored(place)) {
                all.append(all.length() == 0 ? "" : " ").append(place);
            }
        }
        return all.toString();
    }
}
