/**
 * The boundary cases of the terms from BREAKS to ORDER, and of mirrored, sentence by sentence. The
 * answers that are due were found by hand.
 */
public final class LineBoundariesTest {
    private static final Check CHECK = new Check();

    private LineBoundariesTest() {
    }

    public static void main(String[] args) {
        groupsOfMarks();
        breakPlaces();
        breakRules();
        nearestThatIsNotBlank();
        extents();
        greatestEnd();
        noBreakThatFits();
        widerThanTheMeasure();
        nextLines();
        separatorsShown();
        rowsBeforeSeparators();
        rowsAtLineEnds();
        allOthersShown();
        orders();
        mirrored();
        fullParagraphs();
        CHECK.end();
    }

    private static void sentence(String words) {
        CHECK.sentence(words);
    }

    private static void breaks(String text, String want) {
        CHECK.due("breaks: " + text, Text.breaks(Text.of(0, text)), want);
    }

    /** The lines' starts with their extents, and the end. */
    private static void lines(int measure, String text, String want) {
        CHECK.due("lines, measure " + measure + ": " + text,
                Text.lines(Text.of(0, measure, text)), want);
    }

    private static void shownLevels(int base, int measure, String text, String want) {
        CHECK.due("shown levels, base " + base + ", measure " + measure + ": " + text,
                Text.shownLevels(Text.of(base, measure, text)), want);
    }

    private static void order(int base, String text, String want) {
        CHECK.due("order, base " + base + ": " + text, Text.order(Text.of(base, text), 0), want);
    }

    private static void mirrored(int base, String text, String want) {
        CHECK.due("mirrored, base " + base + ": " + text, Text.mirrored(Text.of(base, text)),
                want);
    }

    private static String times(int many, String words) {
        return (words + " ").repeat(many).trim();
    }

    private static void groupsOfMarks() {
        sentence("an NSM has the group of the nearest character before it that is none");
        breaks("L/FREE NSM L", "2");
        breaks("L/FREE NSM/GLUE NSM/GLUE L", "3");
        breaks("L/GLUE NSM/FREE L/FREE", "");
        breaks("L/HYPHEN NSM L", "2");
        breaks("L/BLANK NSM L", "2");
        breaks("L/OPENING NSM/BLANK L/FREE", "");
        breaks("L NSM/BLANK L", "");
        breaks("L NSM/OPENING L/FREE", "2");
        breaks("L/FREE NSM PDF NSM L", "2");

        sentence("WORD if there is none");
        breaks("NSM/FREE L", "");
        breaks("NSM/BLANK L", "");
        breaks("NSM/HYPHEN NSM/FREE L", "");
        breaks("NSM/OPENING L/FREE", "1");
        breaks("NSM/GLUE L/FREE", "1");
        lines(9, "NSM/BLANK:2", "0=2 1");
        lines(9, "NSM/BLANK:2 NSM/BLANK:1", "0=3 2");
    }

    private static void breakPlaces() {
        sentence("A line MAY BE BROKEN before a place (1 up to the last one)");
        breaks("L/FREE", "");
        breaks("L/FREE L/FREE", "1");
        breaks("L/FREE L/FREE L/FREE", "1 2");
        breaks("L/BLANK L", "1");
    }

    private static void breakRules() {
        sentence("an NSM stands there: no");
        breaks("L/FREE NSM/FREE", "");
        breaks("L/BLANK NSM", "");
        breaks("L/BLANK NSM/FREE NSM/FREE", "");
        breaks("L/FREE LRO NSM", "1");

        sentence("q is BLANK or CLOSING: no");
        breaks("L/FREE L/BLANK", "");
        breaks("L/FREE L/CLOSING", "");
        breaks("L/BLANK L/CLOSING", "");
        breaks("L/BLANK L/BLANK", "");
        breaks("L/HYPHEN L/CLOSING", "");

        sentence("b is OPENING: no");
        breaks("L/OPENING L/FREE", "");
        breaks("L/OPENING L/BLANK L/FREE", "");
        breaks("L/OPENING L", "");

        sentence("p is BLANK: yes");
        breaks("L L/BLANK L", "2");
        breaks("L L/BLANK L/GLUE", "2");
        breaks("L L/BLANK L/HYPHEN", "2");
        breaks("L L/BLANK L/OPENING", "2");
        breaks("L/GLUE L/BLANK L", "2");

        sentence("p or q is GLUE: no");
        breaks("L/GLUE L/FREE", "");
        breaks("L/FREE L/GLUE", "");
        breaks("L/HYPHEN L/GLUE", "");

        sentence("q is HYPHEN: no");
        breaks("L/FREE L/HYPHEN", "");
        breaks("L/HYPHEN L/HYPHEN", "");

        sentence("p is HYPHEN, or p or q is FREE: yes");
        breaks("L/HYPHEN L", "1");
        breaks("L/HYPHEN L/OPENING", "1");
        breaks("L/FREE L", "1");
        breaks("L L/FREE", "1");
        breaks("L/CLOSING L/FREE", "1");
        breaks("L/FREE L/OPENING", "1");

        sentence("otherwise no");
        breaks("L L", "");
        breaks("L L/OPENING", "");
        breaks("L/CLOSING L", "");
        breaks("L/CLOSING L/OPENING", "");
    }

    private static void nearestThatIsNotBlank() {
        sentence("b that of the nearest earlier character (p's one, perhaps) that is not BLANK");
        breaks("L/OPENING L/BLANK L/BLANK L/BLANK L", "");
        breaks("L/OPENING L L/BLANK L", "3");
        breaks("L/OPENING L/BLANK NSM L", "");
        breaks("L/OPENING L/BLANK L/OPENING L/BLANK L/FREE", "");
        breaks("L/OPENING L/CLOSING L/BLANK L", "3");
        breaks("L/OPENING NSM L", "");

        sentence("(if there is one)");
        breaks("L/BLANK L/OPENING", "1");
        breaks("L/BLANK L/BLANK L/BLANK L", "3");
        breaks("L/BLANK L/BLANK", "");
    }

    private static void extents() {
        sentence("EXTENT: without the BLANKs (by their groups) at their end");
        lines(9, "L L/BLANK", "0=1 2");
        lines(9, "L L/BLANK:3 R/BLANK:3 ON/BLANK:3", "0=1 4");
        lines(9, "L WS", "0=2 2");
        lines(9, "L L/BLANK:2 L", "0=4 3");
        lines(9, "L/BLANK:2 L", "0=3 2");
        // the group of an NSM is that of the BLANK before it
        lines(9, "L L/BLANK:2 NSM:3", "0=1 3");
        lines(9, "L NSM/BLANK:3", "0=4 2");
        // a hidden character at the end is one of its group
        lines(9, "L L/BLANK:2 PDF", "0=3 3");
        lines(9, "L L/BLANK:2 PDF/BLANK", "0=1 3");

        sentence("EXTENT: 0 of BLANKs alone");
        lines(9, "L/BLANK:3", "0=0 1");
        lines(1, "L/BLANK:3 L/BLANK:3 L/BLANK:3", "0=0 3");
        lines(1, "L/BLANK:3 L", "0=0 1=1 2");
        lines(1, "L/BLANK:3 NSM:3", "0=0 2");
    }

    private static void greatestEnd() {
        sentence("the greatest place e .. and the extent is at most the measure");
        lines(3, "L/FREE L/FREE L/FREE", "0=3 3");
        lines(3, "L/FREE L/FREE L/FREE L/FREE", "0=3 3=1 4");
        lines(3, "L/FREE L/FREE:3", "0=1 1=3 2");
        lines(2, "L L/FREE L/GLUE L", "0=1 1=2 3=1 4");
        lines(1, "L/FREE:1 L/FREE:0 L/FREE:0 L/FREE:1", "0=1 3=1 4");
        // BLANKs may stand over the measure, what is behind them may not
        lines(1, "L L/BLANK:3 L/BLANK:3 L", "0=1 3=1 4");
        lines(2, "L L/BLANK:3 L", "0=1 2=1 3");
        lines(5, "L L/BLANK:3 L", "0=5 3");
        lines(4, "L L/BLANK:3 L", "0=1 2=1 3");
        // a later break that is too far, an earlier one that is not
        lines(4, "L/FREE L L/FREE L L L L", "0=3 3=4 7");
        lines(4, "L/FREE L L L L/FREE L", "0=4 4=2 6");
        lines(3, "L/FREE L L L L/FREE L", "0=1 1=3 4=2 6");

        sentence("e is the end of the paragraph");
        lines(3, "L L L", "0=3 3");
        lines(2, "L/FREE L", "0=2 2");
        lines(1, "L", "0=1 1");
        lines(1, "L L/BLANK", "0=1 2");
        lines(100, "L NSM", "0=2 2");
        lines(1, "LRE:3 PDF:3 LRI:3 PDI:3", "0=0 4");
    }

    private static void noBreakThatFits() {
        sentence("if there is no such e, before the greatest e behind s where no NSM stands");
        lines(3, "L L L L", "0=3 3=1 4");
        lines(2, "L L L L L", "0=2 2=2 4=1 5");
        lines(3, "L L:3 L", "0=1 1=3 2=1 3");
        lines(2, "L L NSM L", "0=1 1=2 3=1 4");
        lines(3, "L L NSM L", "0=3 3=1 4");
        lines(2, "L L NSM NSM", "0=1 1=3 4");
        lines(2, "L L NSM:0 L", "0=2 3=1 4");
        // a break that fits goes before a later place without one
        lines(4, "L/FREE L L L L", "0=1 1=4 5");
        // BLANKs that may not be broken behind stand at the end all the same
        lines(1, "L/OPENING L/BLANK:2 L/BLANK:2 L", "0=1 3=1 4");

        sentence("(or the end) with such an extent");
        lines(2, "L:3 L:0", "0=3 1=0 2");
        lines(3, "L:3 L:0", "0=3 2");
        lines(2, "L:2 L:2", "0=2 1=2 2");
        lines(3, "L:2 L:1", "0=3 2");
    }

    private static void widerThanTheMeasure() {
        sentence("if there is none again, before the first such e, whatever the extent");
        lines(1, "L:3", "0=3 1");
        lines(2, "L:3 L:3", "0=3 1=3 2");
        lines(1, "L:2 L/FREE:2 L:2", "0=2 1=2 2=2 3");
        lines(2, "L:3 NSM:0 L", "0=3 2=1 3");
        lines(2, "L:3 NSM NSM L", "0=5 3=1 4");
        lines(1, "L NSM L NSM", "0=2 2=2 4");
        lines(1, "NSM NSM NSM", "0=3 3");
        lines(1, "NSM:2 L", "0=2 1=1 2");
        lines(1, "L:1 NSM:1", "0=2 2");
        // what is wider is not joined by what has no width, nor by BLANKs that may follow
        lines(2, "L:3 L:0 L:0", "0=3 1=0 3");
        lines(2, "L:3 L/BLANK L", "0=3 1=2 3");
        lines(2, "L:3 L/BLANK", "0=3 1=0 2");
    }

    private static void nextLines() {
        sentence("The next line begins there, until the end of the paragraph");
        lines(1, "L/FREE L/FREE L/FREE", "0=1 1=1 2=1 3");
        lines(2, "L L/BLANK L/BLANK L L/BLANK L L/BLANK", "0=1 3=1 5=1 7");
        lines(1, "L:3 L/BLANK L/BLANK L", "0=3 1=0 3=1 4");
        lines(3, "L L/BLANK L L/BLANK L", "0=3 4=1 5");
    }

    private static void separatorsShown() {
        sentence("SHOWN: in a line every S has the paragraph level");
        shownLevels(0, 100, "R S R", "1 0 1");
        shownLevels(0, 100, "S", "0");
        shownLevels(1, 100, "S", "1");
        shownLevels(0, 100, "S R S S R S", "0 1 0 0 1 0");
        shownLevels(1, 100, "L S L", "2 1 2");
        shownLevels(0, 100, "RLE R S R", "0 1 0 1");
        shownLevels(1, 100, "LRO L S L", "1 2 1 2");
        shownLevels(0, 1, "R S R", "1 0 1");
    }

    private static void rowsBeforeSeparators() {
        sentence("SHOWN: every row .. that stands right before an S");
        shownLevels(0, 100, "R WS S R", "1 0 0 1");
        shownLevels(0, 100, "R WS WS S R", "1 0 0 0 1");
        shownLevels(0, 100, "R WS LRE RLE LRO RLO PDF LRI RLI FSI PDI S R",
                "1 0 0 0 0 0 0 0 0 0 0 0 4");
        shownLevels(0, 100, "R LRI PDI S R", "1 0 0 0 1");
        shownLevels(0, 100, "R RLE PDF S R", "1 0 0 0 1");
        shownLevels(0, 100, "RLE R WS PDI S R", "0 1 0 0 0 1");
        shownLevels(0, 100, "WS S R", "0 0 1");
        shownLevels(1, 100, "L WS S L", "2 1 1 2");

        sentence("SHOWN: a row that is broken by another character is not of them");
        shownLevels(0, 100, "R WS ON S R", "1 1 1 0 1");
        shownLevels(0, 100, "R WS NSM S R", "1 1 1 0 1");
        shownLevels(0, 100, "R WS R S R", "1 1 1 0 1");
        shownLevels(0, 100, "R S WS R", "1 0 1 1");
        shownLevels(0, 100, "R WS R WS S R", "1 1 1 0 0 1");

        sentence("SHOWN: an S of the next line does not reach over");
        // the WS is at the end of its line, the R before it is not
        shownLevels(0, 2, "R WS S/FREE R", "1 0 0 1");
        shownLevels(0, 1, "R R/BLANK S/FREE", "1 1 0");
    }

    private static void rowsAtLineEnds() {
        sentence("SHOWN: every row .. at the end of the line");
        shownLevels(0, 100, "R WS", "1 0");
        shownLevels(0, 100, "RLE R WS WS", "0 1 0 0");
        shownLevels(0, 100, "RLE R PDF", "0 1 0");
        shownLevels(0, 100, "RLE R LRI", "0 1 0");
        shownLevels(0, 100, "RLE R PDI WS FSI RLO", "0 1 0 0 0 0");
        shownLevels(0, 100, "RLE WS WS", "0 0 0");
        shownLevels(0, 100, "RLE R RLI R PDI", "0 1 1 3 0");
        shownLevels(1, 100, "LRE L WS", "1 2 1");
        // each line has its own end
        shownLevels(0, 1, "R WS/BLANK R WS/BLANK R", "1 0 1 0 1");
        shownLevels(0, 3, "R WS/BLANK R WS/BLANK R", "1 1 1 0 1");
        shownLevels(0, 100, "R WS/BLANK R WS/BLANK R", "1 1 1 1 1");
        // a line that begins with such a row, and one that is such a row
        shownLevels(0, 1, "R WS/FREE R", "1 0 1");
        shownLevels(0, 1, "R R WS R", "1 1 0 1");
        shownLevels(0, 2, "R WS/FREE WS/FREE R/FREE", "1 0 1 1");

        sentence("SHOWN: what is at the end of the line and no such character");
        shownLevels(0, 100, "R R/BLANK", "1 1");
        shownLevels(0, 100, "RLE ON", "0 1");
        shownLevels(0, 100, "R WS NSM", "1 0 0");
        shownLevels(0, 100, "RLE R WS NSM", "0 1 1 1");
        shownLevels(0, 100, "RLE WS )", "0 1 1");
    }

    private static void allOthersShown() {
        sentence("SHOWN: all others have their resolved levels");
        shownLevels(0, 100, "L R EN AN WS R", "0 1 2 2 1 1");
        shownLevels(0, 100, "R RLE PDF R", "1 1 1 1");
        shownLevels(0, 100, "R LRI PDI R", "1 1 1 1");
        CHECK.due("level does not follow", Text.levels(Text.of(0, "RLE R WS S WS")), "0 1 1 1 1");
    }

    private static void orders() {
        sentence("ORDER: the characters of the line in their order");
        order(0, "L", "0");
        order(1, "R", "0");
        order(0, "L EN ON", "0 1 2");
        order(0, "LRE PDF", "0 1");

        sentence("ORDER: for each number from the highest shown level down to 1");
        order(0, "L R", "0 1");
        order(0, "R R", "1 0");
        order(1, "R L L", "1 2 0");
        order(0, "AN AN", "0 1");
        order(1, "L EN R", "2 0 1");
        order(0, "RLE RLE RLE R EN EN R PDF PDF PDF L", "0 1 2 9 8 7 6 4 5 3 10");
        // shown levels 1 0 2 2 3 3 4 4 5 6 6
        order(0, "R LRI L RLI R LRI L RLI R EN EN", "0 1 2 3 6 7 9 10 8 5 4");

        sentence("ORDER: every longest row .. whose shown levels are at least this number");
        order(0, "R R L R R", "1 0 2 4 3");
        order(0, "L R R", "0 2 1");
        order(0, "R R L", "1 0 2");
        order(1, "L L R EN EN", "3 4 2 0 1");
        order(1, "EN R EN EN", "2 3 1 0");
        order(0, "R S R R", "0 1 3 2");

        sentence("ORDER: of a line its own characters alone");
        TwoWayLines x = Text.of(1, 3, "R/FREE EN EN R/FREE EN EN R/FREE");
        CHECK.due("lines", Text.lines(x), "0=3 3=3 6=1 7");
        CHECK.due("line 0", Text.order(x, 0), "1 2 0");
        CHECK.due("line 1", Text.order(x, 1), "4 5 3");
        CHECK.due("line 2", Text.order(x, 2), "6");
    }

    private static void mirrored() {
        sentence("19: its pair is not 0 (partner or not)");
        mirrored(1, "( R )", "0 2");
        mirrored(1, "(", "0");
        mirrored(1, ")", "0");
        mirrored(1, "] R {", "0 2");
        mirrored(1, "R ON", "");
        mirrored(0, "RLO ( PDF", "1");

        sentence("19: and its shown level is odd");
        mirrored(0, "( L )", "");
        mirrored(1, "L ( L ) L", "");
        mirrored(0, "R ( R ) R", "1 3");
        mirrored(0, "L ( R ) R", "");
        mirrored(1, "LRO ( R )", "");
        mirrored(1, "RLE ( R )", "1 3");
    }

    private static void fullParagraphs() {
        sentence("at most 64 characters: lines and orders of all 64 of them");
        TwoWayLines one = Text.of(1, 100, times(64, "R"));
        CHECK.due("one line", Text.lines(one), "0=64 64");
        TwoWayLines wide = Text.of(1, 100, times(64, "R:3"));
        CHECK.due("as wide as can be", Text.lines(wide), "0=99 33=93 64");
        TwoWayLines many = Text.of(1, 1, times(64, "R/FREE:3"));
        CHECK.due("64 lines", many.lines(), 64);
        for (int place = 0; place < 64; place++) {
            CHECK.due("order " + place, one.shown(0, place), 63 - place);
            CHECK.due("start " + place, many.start(place), place);
            CHECK.due("extent " + place, many.extent(place), 3);
            CHECK.due("shown " + place, many.shown(place, 0), place);
            CHECK.due("no more " + place, many.shown(place, 1), -1);
        }
        lines(1, times(64, "L/BLANK:3"), "0=0 64");
        lines(1, "L " + times(63, "NSM:3"), "0=190 64");
        lines(1, times(64, "L:0"), "0=0 64");
        breaks("L/OPENING " + times(62, "L/BLANK") + " L", "");
        breaks("L " + times(62, "L/BLANK") + " L", "63");
        shownLevels(0, 100, "RLE R " + times(61, "WS") + " S", "0 1 " + times(62, "0"));
    }
}
