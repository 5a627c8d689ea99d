/**
 * The boundary cases of the terms from MATCH to RESOLVED LEVEL, sentence by sentence. The answers
 * that are due were found by hand; a hidden character's type is written as -.
 */
public final class LevelBoundariesTest {
    private static final int NONE = TwoWayLines.NONE;
    private static final Check CHECK = new Check();

    private LevelBoundariesTest() {
    }

    public static void main(String[] args) {
        matches();
        paragraphLevels();
        isolateDirections();
        nextLevels();
        countsAtFirst();
        lostCounts();
        lonelyEnds();
        closingIsolates();
        overrides();
        runs();
        hiddenOnes();
        beginnings();
        ends();
        marksFirst();
        numbers();
        separators();
        terminators();
        latinNumbers();
        bracketLists();
        bracketTypes();
        bracketMarks();
        neutrals();
        resolvedLevels();
        hiddenLevels();
        fullParagraphs();
        CHECK.end();
    }

    private static void sentence(String words) {
        CHECK.sentence(words);
    }

    private static void types(int base, String text, String want) {
        CHECK.due("types, base " + base + ": " + text, Text.types(Text.of(base, text)), want);
    }

    private static void levels(int base, String text, String want) {
        CHECK.due("levels, base " + base + ": " + text, Text.levels(Text.of(base, text)), want);
    }

    private static void matched(String text, String want) {
        CHECK.due("matches: " + text, Text.matches(Text.of(2, text)), want);
    }

    private static void partners(int base, String text, String want) {
        CHECK.due("partners, base " + base + ": " + text, Text.partners(Text.of(base, text)),
                want);
    }

    private static void paragraphLevel(String text, int want) {
        CHECK.due("paragraph level: " + text, Text.of(2, text).paragraphLevel(), want);
    }

    private static String times(int many, String words) {
        return (words + " ").repeat(many).trim();
    }

    private static void matches() {
        sentence("MATCH: an opener or a PDI may have no match");
        matched("LRI", "-");
        matched("RLI", "-");
        matched("FSI", "-");
        matched("PDI", "-");
        matched("PDI LRI", "- -");
        matched("LRI L LRI", "- - -");
        matched("LRI LRI PDI", "- 2 1");
        matched("LRI PDI PDI", "1 0 -");

        sentence("MATCH: j is the first place behind i with a PDI");
        matched("RLI L PDI L PDI", "2 - 0 - -");
        matched("FSI PDI LRI PDI", "1 0 3 2");

        sentence("MATCH: between i and j there are as many openers as PDIs");
        matched("LRI RLI PDI FSI PDI PDI", "5 2 1 4 3 0");
        matched("LRI RLI FSI PDI PDI PDI PDI", "5 4 3 2 1 0 -");
        matched("PDI PDI LRI RLI FSI PDI", "- - - - 5 4");
        // embeddings and their ends have no part in it
        matched("LRI RLE PDI PDF", "2 - 0 -");
        matched("RLE LRI PDF PDI", "- 3 - 1");
    }

    private static void paragraphLevels() {
        sentence("PARAGRAPH LEVEL: 0, if none of L, R and AL comes");
        CHECK.due("empty, base 2", new TwoWayLines().paragraphLevel(), 0);
        paragraphLevel("EN ES ET AN CS NSM WS S ON LRE RLE LRO RLO PDF PDI", 0);
        paragraphLevel("( )", 0);
        paragraphLevel("RLO EN", 0);

        sentence("DIRECTION: 0 when an L comes, 1 when an R or AL comes");
        paragraphLevel("L", 0);
        paragraphLevel("R", 1);
        paragraphLevel("AL", 1);
        paragraphLevel("L R AL", 0);
        paragraphLevel("AN L R", 0);
        paragraphLevel("AN R L", 1);
        paragraphLevel("EN ES ET AN CS NSM WS S ON LRE RLE LRO RLO PDF PDI AL", 1);

        sentence("DIRECTION: at an opener one goes on behind its match");
        paragraphLevel("LRI L PDI R", 1);
        paragraphLevel("RLI R PDI L", 0);
        paragraphLevel("FSI R PDI L", 0);
        paragraphLevel("LRI L LRI L PDI L PDI R", 1);
        paragraphLevel("LRI PDI R", 1);
        paragraphLevel("LRI L PDI RLI L PDI AL", 1);
        paragraphLevel("PDI LRI L PDI R", 1);

        sentence("DIRECTION: if it has none, it is 0");
        paragraphLevel("LRI R", 0);
        paragraphLevel("RLI R", 0);
        paragraphLevel("FSI AL", 0);
        paragraphLevel("RLI R LRI PDI R", 0);
        paragraphLevel("RLI LRI R PDI R", 0);

        sentence("DIRECTION: or there is nothing more, it is 0");
        paragraphLevel("RLI R PDI", 0);
        paragraphLevel("RLI R PDI WS", 0);
        paragraphLevel("RLI", 0);

        sentence("PARAGRAPH LEVEL: the base if that is 0 or 1");
        CHECK.due("base 0, R", Text.of(0, "R").paragraphLevel(), 0);
        CHECK.due("base 1, L", Text.of(1, "L").paragraphLevel(), 1);
        CHECK.due("base 1, LRI", Text.of(1, "LRI").paragraphLevel(), 1);
        TwoWayLines empty = new TwoWayLines();
        empty.base(1);
        CHECK.due("base 1, empty", empty.paragraphLevel(), 1);
    }

    private static void isolateDirections() {
        sentence("An FSI is as an RLI if the direction .. up to its match is 1, else as an LRI");
        levels(0, "FSI R PDI", "0 1 0");
        levels(0, "FSI AL PDI", "0 1 0");
        levels(0, "FSI L PDI", "0 2 0");
        levels(0, "FSI ON PDI", "0 2 0");
        levels(1, "FSI ON PDI", "1 2 1");
        levels(0, "FSI ON R PDI", "0 1 1 0");
        levels(0, "FSI ON L R PDI", "0 2 2 3 0");
        // what is behind its match does not count
        levels(0, "FSI ON PDI R", "0 2 0 1");
        levels(0, "FSI RLI R PDI ON PDI R", "0 2 3 2 2 0 1");
        levels(0, "FSI LRI L PDI R PDI L", "0 1 2 1 1 0 0");
        levels(0, "FSI FSI R PDI R PDI L", "0 1 3 1 1 0 0");

        sentence("up to the end if it has none");
        levels(0, "FSI ON R", "0 1 1");
        levels(0, "FSI LRI PDI R", "0 1 1 1");
        levels(0, "FSI ON", "0 2");
        levels(1, "FSI ON", "1 2");
        levels(0, "FSI LRI R", "0 2 5");
        levels(0, "FSI FSI R", "0 2 3");
        CHECK.due("FSI alone", Text.everything(Text.of(1, "FSI")), "1 characters, level 1; "
                + "types R; levels 1; matches -; partners -; breaks ; lines 0=0 1; "
                + "shown levels 1; mirrored ; orders 0;");
        CHECK.due("FSI with its match right behind", Text.levels(Text.of(0, "FSI PDI R")),
                "0 0 1");
    }

    private static void nextLevels() {
        sentence("NEXT ODD (EVEN): the least odd (even) number greater than the last entry's");
        levels(0, "LRE L", "0 2");
        levels(0, "RLE R", "0 1");
        levels(1, "LRE L", "1 2");
        levels(1, "RLE R", "1 3");
        levels(0, "LRI L", "0 2");
        levels(0, "RLI R", "0 1");
        levels(1, "LRI L", "1 2");
        levels(1, "RLI R", "1 3");
        levels(0, "LRO R", "0 2");
        levels(0, "RLO L", "0 1");
        levels(1, "LRO R", "1 2");
        levels(1, "RLO L", "1 3");

        sentence("it FITS when it is at most 5");
        levels(0, "RLE RLE RLE R", "0 0 0 5");
        levels(0, "RLE RLE RLE RLE R", "0 0 0 0 5");
        levels(0, "RLE RLE RLE LRE R", "0 0 0 0 5");
        levels(0, "LRE LRE L", "0 0 4");
        levels(0, "LRE LRE LRE L", "0 0 0 4");
        levels(0, "LRE LRE LRO R", "0 0 0 5");
        levels(0, "LRE LRE RLE R", "0 0 0 5");
        levels(0, "LRE LRE RLO L", "0 0 0 5");
        levels(0, "RLE LRE RLE LRE RLE R", "0 0 0 0 0 5");
        levels(0, "RLE LRE RLE LRE RLE RLE LRE R", "0 0 0 0 0 0 0 5");
        levels(1, "LRE RLE LRE RLE R", "1 1 1 1 5");
        levels(1, "LRE RLE LRE RLE LRE R", "1 1 1 1 1 5");
        levels(1, "RLE RLE R", "1 1 5");
        levels(1, "RLE RLE RLE R", "1 1 1 5");
        levels(0, "RLI RLI RLI R", "0 1 3 5");
        levels(0, "RLI RLI RLI RLI R", "0 1 3 5 5");
        levels(0, "RLI RLI RLI LRI R", "0 1 3 5 5");
        levels(0, "LRI LRI L", "0 2 4");
        levels(0, "LRI LRI LRI L", "0 2 4 4");
        levels(0, "LRI LRI RLI R", "0 2 4 5");
        levels(0, "LRI LRI FSI R", "0 2 4 5");
        levels(0, "LRI LRI FSI L", "0 2 4 4");
    }

    /** One object, whose earlier paragraph left the stack and the counts behind. */
    private static void afterwards(String earlier, String text, String want) {
        TwoWayLines x = Text.of(0, earlier);
        x.paragraphLevel();
        x.clear();
        Text.put(x, text);
        CHECK.due("levels, after " + earlier + ": " + text, Text.levels(x), want);
    }

    private static void countsAtFirst() {
        sentence("LOST ISOLATES, LOST EMBEDDINGS and OPEN ISOLATES are counts, 0 at first");
        afterwards("LRE LRE LRE", "RLE L", "0 2");
        afterwards("LRE LRE LRI", "RLE L", "0 2");
        afterwards("LRI", "RLE PDI R", "0 1 1");

        sentence("a STACK .. at first it has one: the paragraph level, no override, no isolate");
        afterwards("LRE LRE", "L R", "0 1");
        afterwards("RLO", "L R", "0 1");
        afterwards("RLO L", "L PDF L", "0 0 0");
        afterwards("RLI L", "L PDI L", "0 0 0");
        TwoWayLines x = Text.of(0, "R");
        CHECK.due("base 0", x.level(0), 1);
        x.drop();
        x.base(1);
        Text.put(x, "L");
        CHECK.due("base 1", x.level(0), 2);
    }

    private static void lostCounts() {
        sentence("it FITS when both lost counts are 0");
        // an embedding lost at level 4 keeps level 5 away from embeddings and isolates
        levels(0, "LRE LRE LRE RLE L", "0 0 0 0 4");
        levels(0, "LRE LRE LRO RLO L", "0 0 0 0 4");
        levels(0, "LRE LRE LRE RLI L", "0 0 0 4 4");
        levels(0, "LRE LRE LRE PDF RLE R", "0 0 0 0 0 5");
        levels(0, "LRE LRE LRE PDF RLI R", "0 0 0 0 4 5");
        // so does an isolate lost there
        levels(0, "LRE LRE LRI RLE L", "0 0 4 4 4");
        levels(0, "LRE LRE LRI RLI L", "0 0 4 4 4");
        levels(0, "LRE LRE LRI PDI RLE R", "0 0 4 4 4 5");
        levels(0, "LRE LRE LRI PDI RLI R", "0 0 4 4 4 5");

        sentence("otherwise, if no isolates are lost, lost embeddings grow by 1");
        levels(0, "LRE LRE LRE L PDF L PDF L PDF L", "0 0 0 4 4 4 4 2 2 0");
        levels(0, "LRE LRE LRE RLE L PDF L PDF L PDF L", "0 0 0 0 4 4 4 4 4 4 2");
        levels(0, "LRE LRE LRE RLE PDF RLE PDF PDF L PDF L", "0 0 0 0 0 0 0 0 4 4 2");
        // what stands in a lost isolate is not counted, so the PDF behind it ends the last LRE
        levels(0, "LRE LRE LRI RLE LRE PDI PDF L", "0 0 4 4 4 4 4 2");

        sentence("otherwise lost isolates grow by 1");
        levels(0, "LRI LRI LRI LRI L PDI L PDI L PDI L PDI L",
                "0 2 4 4 4 4 4 4 4 2 2 0 0");
        levels(0, "LRE LRE LRE LRI L PDI L PDF L PDF L", "0 0 0 4 4 4 4 4 4 4 2");
    }

    private static void lonelyEnds() {
        sentence("PDI: .. otherwise, if isolates are open (a PDI with nothing to close)");
        levels(0, "PDI L", "0 0");
        levels(1, "PDI R", "1 1");
        levels(0, "RLE PDI R", "0 1 1");
        levels(0, "RLE PDI PDI R PDF L", "0 1 1 1 1 0");
        // lost embeddings stay lost behind it
        levels(0, "LRE LRE LRE PDI RLE L", "0 0 0 4 4 4");
        levels(0, "LRE LRE LRE PDI PDF L", "0 0 0 4 4 4");
        levels(0, "RLI R PDI PDI R", "0 1 0 0 1");
        levels(0, "RLI PDI RLE PDI R", "0 0 0 1 1");

        sentence("PDF: .. if there are two entries or more (a PDF with nothing to close)");
        levels(0, "PDF L", "0 0");
        levels(1, "PDF PDF R", "1 1 1");
        levels(0, "PDF PDF RLE R PDF PDF L", "0 0 0 1 1 1 0");
        levels(0, "RLE PDF PDF RLE R", "0 0 0 0 1");

        sentence("PDF: .. and the last one is no isolate");
        levels(0, "RLI PDF R PDI L", "0 0 1 0 0");
        levels(0, "RLI PDF PDF R", "0 0 0 1");
        levels(0, "RLI LRE PDF PDF R", "0 0 0 0 1");
        levels(0, "LRE RLI PDF R PDI L PDF L", "0 2 2 3 2 2 2 0");

        sentence("PDF: nothing if isolates are lost");
        levels(0, "LRE LRE LRI PDF L PDI L", "0 0 4 4 4 4 4");
        levels(0, "LRE LRE LRI PDF PDI L PDF L", "0 0 4 4 4 4 4 2");
        levels(0, "LRE LRE LRE LRI PDF PDI RLE L", "0 0 0 4 4 4 4 4");

        sentence("PDF: otherwise, if embeddings are lost, lost embeddings go down by 1");
        levels(0, "LRE LRE LRE PDF L PDF L", "0 0 0 0 4 4 2");
        levels(0, "RLE RLE RLE RLE PDF R PDF R", "0 0 0 0 0 5 5 3");
    }

    private static void closingIsolates() {
        sentence("PDI: if isolates are lost, lost isolates go down by 1");
        levels(0, "LRI LRI LRI L PDI L PDI L PDI L", "0 2 4 4 4 4 2 2 0 0");
        levels(0, "LRI LRI LRI PDI RLE R", "0 2 4 4 4 5");
        levels(0, "LRI LRI LRI LRI PDI RLE L", "0 2 4 4 4 4 4");

        sentence("PDI: .. lost embeddings become 0");
        levels(0, "LRI LRE LRE LRE PDI RLE R", "0 0 0 0 0 0 1");
        levels(0, "RLE LRI LRE LRE PDI PDF L", "0 1 1 1 1 1 0");

        sentence("PDI: .. entries are taken off up to and with the last one that is an isolate");
        levels(0, "RLI LRE RLE L PDI L", "0 0 0 4 0 0");
        levels(0, "RLI LRI RLE L PDI L PDI L", "0 1 1 4 1 2 0 0");
        levels(0, "RLE LRI RLE PDI R PDF L", "0 1 1 1 1 1 0");

        sentence("PDI: .. open isolates go down by 1");
        levels(0, "RLI PDI RLE PDI R", "0 0 0 1 1");
        levels(0, "RLI LRI PDI PDI RLE PDI PDI R", "0 1 1 0 0 1 1 1");
    }

    private static void overrides() {
        sentence("its TYPE is the override if there is one, else its kind");
        types(0, "LRO R AL EN ES ET AN CS NSM WS S ON", "- L L L L L L L L L L L");
        types(0, "RLO L AL EN ES ET AN CS NSM WS S ON", "- R R R R R R R R R R R");
        types(0, "RLO LRI L PDI RLI R PDI FSI L PDI", "- R L R R R R R L R");
        types(0, "LRO RLI R PDI", "- L R L");
        types(0, "RLO PDI L", "- R R");
        types(0, "RLO L PDF L", "- R - L");
        types(0, "RLO LRE L PDF L", "- - L - R");
        types(0, "RLO RLI L PDI L", "- R L R R");

        // strong on both sides of it would else give it the other one
        types(0, "RLE RLE R PDF PDF LRO ON PDF RLE RLE R", "- - R - - - L - - - R");
        types(0, "LRE LRE L PDF PDF RLO ON PDF LRE LRE L", "- - L - - - R - - - L");
        // the override is R, which makes no AN of an EN of the same run
        types(0, "RLO L PDF RLE EN", "- R - - EN");
        types(0, "RLO AL PDF RLE EN", "- R - - EN");

        sentence("an override of a mark that does not fit is not taken");
        types(0, "LRE LRE LRE LRO R", "- - - - R");
        types(0, "RLE RLE RLE RLO L", "- - - - L");
    }

    private static void runs() {
        sentence("A run begins a sequence unless its first character is a PDI that has a match");
        // the WS behind the PDI has the R before the opener before it
        types(0, "R LRI L PDI WS R", "R R L R R R");
        types(0, "L RLI R PDI WS L", "L L R L L L");
        types(1, "L RLI R PDI WS L", "L L R L L L");
        types(0, "AL LRI L PDI EN", "R R L R AN");
        types(0, "R EN LRI R PDI CS EN", "R EN R R R R EN");

        sentence("a PDI without match begins one");
        types(0, "RLE R PDF PDI R", "- R - R R");
        types(0, "LRE R PDF PDI R", "- R - L R");
        types(1, "RLE AL PDF PDI EN", "- R - R EN");

        sentence("when the last character is an opener with a match, that match's run follows");
        types(0, "R LRI L PDI LRI L PDI R", "R R L R R L R R");
        types(0, "R LRI L PDI LRI L PDI L", "R L L L L L L L");
        types(0, "AL LRI RLI L PDI PDI EN", "R R L L L R AN");
        types(0, "AL LRI PDI EN", "R R R AN");
        types(0, "AL LRI LRE PDI EN", "R R - R AN");
        // without a match the sequence ends there
        types(0, "AL LRI EN", "R L L");
    }

    private static void hiddenOnes() {
        sentence("Hidden characters have no type; in SEQUENCES they are passed over");
        types(0, "LRE RLE LRO RLO PDF", "- - - - -");
        types(0, "PDF", "-");
        types(1, "R EN PDF ES PDF EN", "R EN - EN - EN");
        types(1, "R PDF EN RLE PDF ET", "R - EN - - EN");
        types(0, "R PDF NSM", "R - R");
        types(0, "R PDF WS PDF R", "R - R - R");
        types(0, "R ( PDF NSM L ) PDF NSM R", "R L - L L L - L R");
        partners(0, "( PDF )", "2 - 0");
        partners(0, "( RLE PDF )", "3 - - 0");
        partners(0, "( RLE L PDF )", "- - - - -");
        partners(0, "( RLE )", "- - -");
        // the last one of a run is the opener, though a hidden one stands behind it
        types(0, "AL LRI RLE L PDI EN", "R R - L R AN");
    }

    private static void beginnings() {
        sentence("BEGINNING: the paragraph level, if there is none before the first one");
        types(0, "NSM", "L");
        types(1, "NSM", "R");
        types(0, "WS L", "L L");
        types(1, "WS R", "R R");
        types(0, "PDF NSM R", "- L R");
        types(1, "LRE NSM R", "- L R");
        types(0, "RLE NSM L", "- R L");
        types(1, "RLE PDF LRE NSM", "- - - L");

        sentence("BEGINNING: R when the greater one of this level and the level before is odd");
        types(0, "L RLE NSM", "L - R");
        types(1, "R LRE NSM", "R - L");
        types(0, "RLE R PDF NSM", "- R - R");
        types(0, "LRE R PDF NSM", "- R - L");
        types(1, "LRE L PDF NSM", "- L - L");
        types(1, "RLE L PDF NSM", "- L - R");
        types(0, "LRE RLE R PDF NSM", "- - R - R");
        types(0, "RLE LRE R PDF NSM L", "- - R - L L");
        // an opener before the first one inside, and a level before an isolate's inside
        types(0, "L RLI NSM", "L L R");
        types(1, "R LRI NSM PDI", "R R L R");
        // the sequence's first one counts, not the first one of a later run
        types(0, "RLE R PDF LRI NSM PDI NSM L", "- R - L L L L L");
    }

    private static void ends() {
        sentence("END: the paragraph level is taken when there is none behind the last one");
        types(0, "R WS", "R L");
        types(1, "R WS", "R R");
        types(1, "L WS", "L R");
        types(0, "L WS", "L L");
        types(1, "R LRE R WS", "R - R L");
        types(1, "LRE L WS PDF", "- L L -");
        types(0, "RLE L WS", "- L R");
        types(1, "RLE RLE R PDF PDF WS PDF", "- - R - - R -");

        sentence("END: likewise with the character behind its last one");
        types(0, "R WS RLE R", "R R - R");
        types(0, "R WS LRE R", "R L - R");
        types(0, "R WS LRE PDF RLE R", "R R - - - R");
        types(1, "L WS LRE L", "L L - L");
        types(1, "L WS RLE L", "L R - L");
        types(1, "LRE L WS PDF R", "- L L - R");
        types(0, "RLE L WS PDF L", "- L R - L");
        types(1, "LRE R WS RLE R PDF PDF", "- R R - R - -");

        sentence("END: the paragraph level is taken when the last one is an opener without match");
        types(0, "R WS RLI R", "R L L R");
        types(0, "R RLI R", "R L R");
        types(1, "L LRI L", "L R L");
        types(0, "L RLI R", "L L R");
        types(1, "R LRI L", "R R L");
        types(0, "RLE RLI R", "- R R");
        types(0, "RLE L RLI R", "- L R R");
        types(1, "LRE L RLI R", "- L L R");
        types(0, "R WS FSI", "R L L");
        // with a match it is no such one
        types(0, "R WS RLI R PDI R", "R R R R R R");
    }

    private static void marksFirst() {
        sentence("W1: the first one: BEGINNING");
        types(0, "NSM NSM R", "L L R");
        types(1, "NSM NSM L", "R R L");
        types(0, "RLE NSM L", "- R L");
        types(1, "R LRE NSM R", "R - L R");
        types(0, "RLI NSM L PDI", "L R L L");
        types(0, "NSM EN", "L L");
        types(1, "NSM EN", "R EN");

        sentence("W1: ON if that type is 17 .. 20");
        types(1, "L LRI NSM PDI R", "L R L R R");
        types(1, "L PDI NSM L", "L L L L");
        types(1, "L PDI NSM R", "L R R R");
        types(0, "R LRI PDI NSM R", "R R R R R");
        types(0, "L RLI PDI NSM R", "L L L L R");
        types(0, "R LRI L PDI NSM NSM L", "R L L L L L L");
        // in an override such a character has the type L or R
        types(0, "RLO PDI PDF PDI", "- R - L");

        sentence("W1: an NSM gets the type of the one before it");
        types(0, "AL NSM EN", "R R AN");
        types(1, "R EN NSM ES EN", "R EN EN EN EN");
        types(1, "R EN ES NSM EN", "R EN R R EN");
        types(1, "R ET NSM EN", "R EN EN EN");
        types(1, "AN NSM CS AN", "AN AN AN AN");
        types(1, "AN CS NSM AN", "AN R R AN");
        types(0, "R WS NSM L", "R L L L");
    }

    private static void numbers() {
        sentence("W2: an EN becomes AN if the last L, R or AL before it is an AL");
        types(0, "AL EN EN", "R AN AN");
        types(0, "AL ON WS EN", "R R R AN");
        types(0, "AL R EN", "R R EN");
        types(0, "AL L EN", "R L L");
        types(1, "EN AL", "EN R");
        types(1, "EN", "EN");
        // the last one before it in its sequence
        types(0, "AL RLI EN PDI EN", "R R EN R AN");
        types(0, "RLI AL PDI EN", "L R L L");
        types(1, "AL RLE EN PDF EN", "R - EN - EN");
        types(0, "AL AN EN", "R AN AN");

        sentence("W3: AL becomes R");
        types(0, "AL", "R");
        types(0, "AL WS R", "R R R");
        types(0, "R ( AL ) R", "R R R R R");
    }

    private static void separators() {
        sentence("W4: right before and right behind it (the first or last one lacks a side)");
        types(1, "ES EN", "R EN");
        types(1, "EN ES", "EN R");
        types(1, "CS AN", "R AN");
        types(1, "AN CS", "AN R");
        types(1, "ES", "R");
        types(1, "EN ES ES EN", "EN R R EN");
        types(1, "EN CS CS EN", "EN R R EN");
        types(1, "EN WS ES EN", "EN R R EN");
        types(1, "EN ES EN ES EN", "EN EN EN EN EN");

        sentence("W4: a CS with EN on both sides becomes EN, with AN on both sides AN");
        types(1, "EN CS EN", "EN EN EN");
        types(1, "AN CS AN", "AN AN AN");
        types(1, "EN CS AN", "EN R AN");
        types(1, "AN CS EN", "AN R EN");
        types(1, "AL EN CS EN", "R AN AN AN");
        types(1, "AL EN CS AN", "R AN AN AN");

        sentence("W4: an ES with EN");
        types(1, "EN ES EN", "EN EN EN");
        types(1, "AN ES AN", "AN R AN");
        types(1, "AL EN ES EN", "R AN R AN");
        // neighbours in the sequence
        types(1, "EN RLI L PDI ES EN", "EN R L R R EN");
        types(1, "EN RLE ES PDF EN", "EN - R - EN");
    }

    private static void terminators() {
        sentence("W5: in a row .. all become EN if an EN is right before or right behind");
        types(1, "ET ET EN", "EN EN EN");
        types(1, "EN ET ET", "EN EN EN");
        types(1, "ET ET EN ET ET", "EN EN EN EN EN");
        types(1, "ET ET ET", "R R R");
        types(1, "ET AN ET", "R AN R");
        types(1, "AL ET EN ET", "R R AN R");
        types(1, "ET WS EN", "R R EN");
        types(1, "EN WS ET", "EN R R");
        types(1, "ET ES EN", "R R EN");
        types(1, "EN CS ET EN", "EN R EN EN");
        types(1, "EN ET CS EN", "EN EN R EN");
        types(1, "EN LRE ET PDF", "EN - L -");

        sentence("W6: ES, ET and CS that are left become ON");
        types(0, "R ES R", "R R R");
        types(0, "R ET R", "R R R");
        types(0, "R CS R", "R R R");
        types(0, "L ES R", "L L R");
        types(1, "L ET CS ES L", "L L L L L");
    }

    private static void latinNumbers() {
        sentence("W7: an EN becomes L if the last L or R before it is an L");
        types(0, "L EN", "L L");
        types(1, "L EN", "L L");
        types(1, "L ON AN EN", "L R AN L");
        types(0, "R EN", "R EN");
        types(0, "L R EN", "L R EN");
        types(0, "R L EN", "R L L");

        sentence("W7: or there is none and BEGINNING is L");
        types(0, "EN", "L");
        types(1, "EN", "EN");
        types(0, "ON EN", "L L");
        types(1, "ON EN", "R EN");
        types(0, "RLE EN", "- EN");
        types(1, "LRE EN", "- L");
        types(1, "LRE EN PDF EN", "- L - L");
        types(1, "R LRE EN", "R - L");
        types(0, "L RLI EN PDI EN", "L L EN L L");
        types(0, "RLE R PDF EN", "- R - EN");
        types(0, "AN EN", "AN L");
    }

    private static void bracketLists() {
        sentence("N0: a closing one .. if there is none on the list, nothing is done");
        partners(0, ")", "-");
        partners(0, ") ( )", "- 2 1");
        partners(0, "( ] )", "2 - 0");
        partners(0, "( ) )", "1 0 -");
        partners(0, "[ ) ]", "2 - 0");
        partners(0, "} ] )", "- - -");
        partners(0, "( [ ] ] )", "4 2 1 - 0");

        sentence("N0: paired with the last one on the list that has its number");
        partners(0, "( ( )", "- 2 1");
        partners(0, "( ( ) )", "3 2 1 0");
        partners(0, "( [ ( ] )", "4 3 - 1 0");
        partners(0, "( ( [ )", "- 3 - 1");

        sentence("N0: which is taken off the list with all behind it");
        partners(0, "( [ ) ]", "2 - 0 -");
        partners(0, "( ) )", "1 0 -");
        partners(0, "{ ( [ } ] )", "3 - - 0 - -");
        partners(0, "( [ { ) } ] ( )", "3 - - 0 - - 7 6");
        partners(0, "[ ( { ) } ]", "5 3 - 1 - 0");

        sentence("N0: an opening one for which no closing one comes");
        partners(0, "(", "-");
        partners(0, "( [ {", "- - -");
        types(0, "R ( L", "R L L");
        types(0, "R ( R", "R R R");
        types(0, "R ) R", "R R R");

        sentence("N0: brackets are those whose type is ON now");
        partners(0, "LRO ( ) PDF", "- - - -");
        partners(0, "( LRO ) PDF )", "- - - - -");
        partners(0, "( LRO LRI ) PDI ) PDF", "- - - - - - -");
        partners(0, "RLO ( LRI ( ) PDI ) PDF", "- - - 4 3 - - -");
        partners(0, "RLO ( PDF )", "- - - -");
        partners(0, "( RLO ) PDF", "- - - -");

        sentence("N0: each sequence has a list of its own");
        partners(0, "( LRI ) PDI )", "4 - - - 0");
        partners(0, "( LRI ( PDI )", "4 - - - 0");
        partners(0, "( LRI [ ] PDI )", "5 - 3 2 - 0");
        partners(0, "RLI ( PDI LRI ) PDI", "- - - - - -");
        partners(0, "RLE ( PDF )", "- - - -");
        partners(0, "LRI ( PDI )", "- - - -");
    }

    private static void bracketTypes() {
        sentence("N0: if a character between the two has the type EMBEDDING, both get it");
        types(0, "R ( L ) R", "R L L L R");
        types(0, "R ( R L R ) R", "R L R L R L R");
        types(1, "L ( R ) L", "L R R R L");
        types(1, "L ( EN ) L", "L L L L L");
        types(1, "L ( AN ) L", "L R AN R L");
        types(0, "R ( [ L ] ) R", "R L L L L L R");

        sentence("N0: if one between has the other one .. the last L or R before .. is that one");
        types(0, "R ( R ) L", "R R R R L");
        types(1, "L ( L ) R", "L L L L R");
        types(0, "R WS ( WS R ) L", "R R R R R R L");
        types(0, "AN ( R ) L", "AN R R R L");
        types(0, "R ( AN ) L", "R R AN R L");
        types(0, "R EN ( EN ) L", "R EN R EN R L");

        sentence("N0: else EMBEDDING");
        types(0, "L ( R ) R", "L L R L R");
        types(1, "R ( L ) L", "R R L R L");
        types(0, "L ( AN ) AN", "L L AN L AN");
        types(0, "R L ( R ) R", "R L L R L R");

        sentence("N0: BEGINNING, if there is none before the opening one");
        types(0, "( R ) R", "L R L R");
        types(1, "( L ) L", "R L R L");
        types(0, "WS ( R ) R", "L L R L R");
        types(0, "RLE R PDF ( R ) L", "- R - R R R L");
        types(0, "RLE R PDF WS ( R ) L", "- R - R R R R L");
        types(1, "LRE L PDF ( L ) R", "- L - L L L R");

        sentence("N0: otherwise they stay (and are then as the neutrals beside them)");
        types(0, "R ( ) R", "R R R R");
        types(0, "R ( WS ) R", "R R R R R");
        types(0, "R ( ) L", "R L L L");
        types(0, "R ( [ ] ON ) R", "R R R R R R R");
        types(1, "L ( S ) L", "L L L L L");
        types(0, "R ( RLI R PDI ) L", "R L L R L L L");
        partners(0, "R ( ) R", "- 2 1 -");

        sentence("N0: for each pair, in the order of the opening ones");
        types(0, "R ( L ) [ R ] L", "R L L L L R L L");
        types(0, "R [ L ( R ) ] R", "R L L L R L L R");
        types(0, "R [ ( R ) ] L", "R R R R R R L");
        types(1, "L ( R ) [ L ] L", "L R R R R L R L");
        // the outer one is settled before the inner one has a type
        types(0, "L R ( [ R ] ) L", "L R R R R R R L");
        types(0, "L ( R [ R ] ) R", "L L R R R R L R");
    }

    private static void bracketMarks() {
        sentence("N0: the marks that stand right behind it, one after the other, get it too");
        types(0, "R ( NSM NSM L ) NSM NSM R", "R L L L L L L L R");
        types(0, "R ( L ) NSM", "R L L L L");
        types(0, "R ( L NSM ) R", "R L L L L R");
        types(0, "R ( NSM L ) WS NSM R", "R L L L L L L R");
        types(1, "L ( R ) NSM L", "L R R R R L");
        types(1, "L ( NSM R ) L", "L R R R R L");
        types(0, "R ( NSM R ) NSM L", "R R R R R R L");
        types(0, "L ( NSM R ) NSM R", "L L L R L L R");
        types(0, "R ( NSM R ) NSM NSM L", "R R R R R R R L");
        types(1, "L ( NSM L ) NSM NSM NSM R", "L L L L L L L L R");
        // not those behind another character, nor what is no mark
        types(0, "R ( L ) R NSM", "R L L L R R");
        types(0, "R ( L ) ON R", "R L L L L R");
        types(1, "L ( R ) ON NSM L", "L R R R R R L");
        // a pair that stays has marks that stay
        types(0, "R ( NSM ) NSM R", "R R R R R R");
        types(0, "R ( NSM ) NSM L", "R L L L L L");

        sentence("MARKS are those that were NSM here (an overridden NSM is none)");
        types(0, "R ( L ) RLO NSM", "R L L L - R");
    }

    private static void neutrals() {
        sentence("N1: BEGINNING before the first one");
        types(0, "RLE R PDF WS R", "- R - R R");
        types(0, "WS R", "L R");
        types(1, "WS L", "R L");
        types(1, "LRE L PDF ON L", "- L - L L");
        types(0, "RLE WS L", "- R L");

        sentence("N1: END behind the last one");
        types(0, "R WS RLE R", "R R - R");
        types(1, "L ON LRE L", "L L - L");
        types(0, "R ON", "R L");
        types(1, "L ON", "L R");

        sentence("N1: a row that is the whole sequence");
        types(0, "WS S ON PDI", "L L L L");
        types(1, "WS S ON PDI", "R R R R");
        types(0, "RLE R PDF WS RLE R", "- R - R - R");
        types(0, "RLE R PDF WS LRE R", "- R - L - R");
        types(1, "LRE L PDF WS LRE L", "- L - L - L");
        types(1, "LRE WS PDF R", "- L - R");

        sentence("N1: L on both sides; R, EN or AN on both sides");
        types(1, "L WS L", "L L L");
        types(0, "R WS R", "R R R");
        types(0, "R WS EN", "R R EN");
        types(0, "AN WS R", "AN R R");
        types(0, "AN WS AN", "AN R AN");
        types(0, "R EN WS EN", "R EN R EN");
        types(0, "R EN WS AN", "R EN R AN");
        types(0, "AN WS S ON PDI AN", "AN R R R R AN");

        sentence("N2: those that are left get EMBEDDING");
        types(0, "L WS R", "L L R");
        types(1, "L WS R", "L R R");
        types(0, "AN WS L", "AN L L");
        types(1, "L ON WS S PDI AN", "L R R R R AN");
        types(0, "RLE L WS R", "- L R R");
        types(1, "LRE R WS L", "- R L L");
    }

    private static void resolvedLevels() {
        sentence("RESOLVED LEVEL: plus 1 for R and 2 for EN and AN when it is even");
        levels(0, "L R EN AN", "0 1 2 2");
        levels(0, "LRE L R EN AN", "0 2 3 4 4");
        levels(0, "LRE LRE L R EN AN", "0 0 4 5 6 6");

        sentence("RESOLVED LEVEL: plus 1 for L, EN and AN when it is odd");
        levels(1, "R EN AN L", "1 2 2 2");
        levels(1, "RLE R EN AN L", "1 3 4 4 4");
        levels(1, "RLE RLE R EN AN L", "1 1 5 6 6 6");
    }

    private static void hiddenLevels() {
        sentence("A hidden character has the resolved level of the character before it");
        levels(0, "R RLE", "1 1");
        levels(0, "AN LRE L", "2 2 2");
        levels(0, "AN PDF PDF L", "2 2 2 0");
        levels(0, "RLE EN PDF L", "0 2 2 0");
        levels(1, "LRO R PDF RLE R", "1 2 2 2 3");

        sentence("the paragraph level if it is the first");
        levels(0, "RLE R", "0 1");
        levels(1, "LRE L", "1 2");
        levels(1, "PDF LRE L", "1 1 2");
        levels(2, "RLE R", "1 3");
        levels(2, "RLO L", "0 1");
        levels(1, "LRE", "1");
        levels(1, "LRE RLE LRO RLO PDF", "1 1 1 1 1");
    }

    private static void fullParagraphs() {
        sentence("at most 64 characters: each of the terms with all 64 of them");
        matched(times(64, "LRI"), times(64, "-"));
        matched(times(64, "PDI"), times(64, "-"));
        TwoWayLines nested = Text.of(2, times(32, "RLI") + " " + times(32, "PDI"));
        TwoWayLines brackets = Text.of(1, times(32, "(") + " " + times(32, ")"));
        for (int place = 0; place < 64; place++) {
            CHECK.due("nested " + place, nested.match(place), 63 - place);
            CHECK.due("brackets " + place, brackets.partner(place), 63 - place);
        }
        // three isolates fit, 29 are lost
        levels(0, times(32, "RLI") + " " + times(32, "PDI"),
                "0 1 3 " + times(58, "5") + " 3 1 0");
        levels(0, times(63, "RLE") + " R", times(63, "0") + " 5");
        levels(0, times(32, "RLE") + " " + times(29, "PDF") + " R PDF R",
                times(61, "0") + " 5 5 3");
        partners(0, times(64, "("), times(64, "-"));
        partners(0, times(64, ")"), times(64, "-"));
        partners(0, times(63, "[") + " ]", times(62, "-") + " 63 62");
        partners(0, "( " + times(62, "[") + " )", "63 " + times(62, "-") + " 0");
        types(1, times(64, "NSM"), times(64, "R"));
        types(1, times(64, "ET"), times(64, "R"));
        types(1, times(63, "ET") + " EN", times(64, "EN"));
        types(1, "EN " + times(63, "ET"), times(64, "EN"));
        types(0, "R " + times(62, "WS") + " R", times(64, "R"));
        types(0, "AL " + times(63, "EN"), "R " + times(63, "AN"));
        types(0, "R ( L ) " + times(60, "NSM"), "R " + times(63, "L"));
        // one sequence of 17 runs, and 32 sequences of one character each
        types(0, times(16, "RLI R PDI R"), "L R L R " + times(60, "R"));
        CHECK.due("one character a run", Text.of(0, times(16, "L RLE R PDF")).level(62), 1);
        CHECK.due("no match", nested.match(64), NONE);
    }
}
