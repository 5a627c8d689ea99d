/** Each promise by hand-made examples: ordinary ones, the document's edges, wrong inputs. */
public final class PromisesTest {
    private static final int NONE = TwoWayLines.NONE;
    private static final int[] NO_PLACES = {-1, Integer.MIN_VALUE, Integer.MAX_VALUE, 64, 65};
    private static final Check CHECK = new Check();

    private PromisesTest() {
    }

    private static void due(String what, Object got, Object want) {
        CHECK.due(what, got, want);
    }

    public static void main(String[] args) {
        newObject();
        asTheyAreThen();
        add();
        drop();
        clear();
        base();
        measure();
        length();
        paragraphLevel();
        match();
        partner();
        weakTypes();
        bracketTypes();
        neutralTypes();
        overriddenTypes();
        embeddings();
        isolates();
        hiddenLevels();
        mayBreak();
        lines();
        shownLevel();
        shown();
        mirrored();
        CHECK.end();
    }

    private static void newObject() {
        TwoWayLines x = new TwoWayLines();
        due("1 length", x.length(), 0);
        due("1 lines", x.lines(), 0);
        due("1 start(0)", x.start(0), 0);
        due("1 start(1)", x.start(1), -1);
        due("1 extent(0)", x.extent(0), -1);
        due("1 paragraphLevel", x.paragraphLevel(), 0);
        due("1 shown(0, 0)", x.shown(0, 0), -1);
        due("1 type(0)", x.type(0), -1);
        due("1 mirrored(0)", x.mirrored(0), false);
        Text.put(x, "AL");
        due("1 base 2", x.paragraphLevel(), 1);
        Text.put(x, "L/FREE:3 L/FREE:3 L/FREE:3 L/FREE:1");
        due("1 measure 10", Text.lines(x), "0=10 4=1 5");
    }

    /** Nothing of an earlier paragraph, base or measure may be left in an answer. */
    private static void asTheyAreThen() {
        TwoWayLines x = Text.of(0, 2, "RLO LRE LRE LRE LRI LRI R/FREE ( NSM L/FREE ) NSM");
        due("1 first", Text.levels(x), "0 0 0 0 4 4 5 4 4 4 4 4");
        x.clear();
        Text.put(x, "LRI LRE R PDI PDI WS L/FREE WS");
        due("1 the marks are read anew", Text.levels(x), "0 0 5 0 0 0 0 0");
        due("1 start asked first", x.drop() ? x.start(1) : NONE, 6);
        x.measure(3);
        due("1 extent asked first", x.extent(0), 3);
        x.clear();
        Text.put(x, "R ( L )");
        due("1 no marks are left", Text.types(x), "R L L L");
        x.measure(1);
        due("1 shown asked first", x.shown(1, 0), 1);
        x.base(1);
        due("1 mirrored asked first", x.mirrored(1), true);
        x.drop();
        due("1 partner asked first", x.partner(1), NONE);
        x.drop();
        due("1 type asked first", x.type(1), 1);
        x.base(2);
        x.drop();
        x.drop();
        due("1 paragraphLevel asked first", x.paragraphLevel(), 0);
        Text.put(x, "FSI R");
        x.drop();
        due("1 a dropped one gives no direction", Text.levels(x), "0");
        Text.put(x, "WS");
        due("1 direction behind an opener", Text.levels(x), "0 2");
        x.clear();
        due("1 lines asked first", x.lines(), 0);
        Text.put(x, "RLE PDI L");
        due("1 no isolate is left open", Text.levels(x), "0 1 2");
    }

    private static void add() {
        TwoWayLines x = new TwoWayLines();
        int[][] wrong = {{-1, 0, 1, 0}, {21, 0, 1, 0}, {0, -1, 1, 0}, {0, 7, 1, 0}, {0, 0, -1, 0},
                {0, 0, 4, 0}, {11, 0, 1, 4}, {11, 0, 1, -4}, {0, 0, 1, 4}, {16, 0, 1, -4},
                {Integer.MIN_VALUE, 0, 0, 0}, {0, Integer.MAX_VALUE, 0, 0},
                {0, 0, Integer.MIN_VALUE, 0}, {0, 0, 0, Integer.MIN_VALUE}};
        for (int[] w : wrong) {
            due("2 wrong kind, group, width or pair", x.add(w[0], w[1], w[2], w[3]), false);
        }
        due("2 nothing changed", x.length(), 0);
        due("2 least ones", x.add(0, 0, 0, -3), true);
        due("2 greatest ones", x.add(20, 6, 3, 3), true);
        due("2 both are there", x.length(), 2);
        for (int i = 2; i < 64; i++) {
            due("2 place " + i, x.add(1, 5, 1, 0), true);
        }
        due("2 a 65th", x.add(1, 5, 1, 0), false);
        due("2 64 stay", x.length(), 64);
        due("2 the last one", x.level(63), 1);

        due("2 width of kinds 12 .. 20", Text.lines(Text.of(0, 9,
                "LRE:3 RLE:3 LRO:3 RLO:3 PDF:3 LRI:3 RLI:3 FSI:3 PDI:3 ON:3")), "0=3 10");
        TwoWayLines pairs = Text.of(1, "R");
        pairs.add(1, 0, 1, 1);
        pairs.add(1, 0, 1, -1);
        due("2 pair of another kind", Text.partners(pairs), "- - -");
        due("2 pair of another kind mirrored", Text.mirrored(pairs), "");
    }

    private static void drop() {
        TwoWayLines x = new TwoWayLines();
        due("3 none there", x.drop(), false);
        Text.put(x, "LRI R PDI L");
        due("3 before", Text.matches(x), "2 - 0 -");
        due("3 one", x.drop(), true);
        due("3 another", x.drop(), true);
        due("3 length", x.length(), 2);
        due("3 place is gone", x.level(2), -1);
        due("3 match is gone", Text.matches(x), "- -");
        due("3 the last two", x.drop() && x.drop(), true);
        due("3 none left", x.drop(), false);
        due("3 empty", x.length(), 0);
        for (int i = 0; i < 64; i++) {
            x.add(0, 0, 1, 0);
        }
        due("3 room again", x.drop() && x.add(1, 0, 1, 0) && !x.add(1, 0, 1, 0), true);
        due("3 the new one", x.type(63), 1);
    }

    private static void clear() {
        TwoWayLines x = Text.of(1, 2, "L/FREE L/FREE L/FREE");
        due("4 before", Text.lines(x), "0=2 2=1 3");
        x.clear();
        due("4 empty", x.length(), 0);
        due("4 no lines", Text.lines(x), "0");
        due("4 base stays", x.paragraphLevel(), 1);
        Text.put(x, "L/FREE L/FREE L/FREE");
        due("4 base stays again", Text.levels(x), "2 2 2");
        due("4 measure stays", Text.lines(x), "0=2 2=1 3");
        x.clear();
        x.clear();
        due("4 twice", x.length(), 0);
    }

    private static void base() {
        TwoWayLines x = Text.of(2, "R");
        due("5 by text", x.paragraphLevel(), 1);
        due("5 base(0)", x.base(0), true);
        due("5 is 0", x.paragraphLevel(), 0);
        for (int b : new int[] {-1, 3, Integer.MIN_VALUE, Integer.MAX_VALUE}) {
            due("5 wrong " + b, x.base(b), false);
        }
        due("5 still 0", x.paragraphLevel(), 0);
        due("5 base(1)", x.base(1), true);
        x.drop();
        Text.put(x, "L");
        due("5 is 1", x.paragraphLevel(), 1);
        due("5 base(2)", x.base(2), true);
        due("5 by text again", x.paragraphLevel(), 0);
    }

    private static void measure() {
        TwoWayLines x = Text.of(0, 3, "L/FREE L/FREE L/FREE L/FREE");
        due("6 three", Text.lines(x), "0=3 3=1 4");
        for (int m : new int[] {0, -1, 101, Integer.MIN_VALUE, Integer.MAX_VALUE}) {
            due("6 wrong " + m, x.measure(m), false);
        }
        due("6 still three", Text.lines(x), "0=3 3=1 4");
        due("6 least", x.measure(1), true);
        due("6 is one", Text.lines(x), "0=1 1=1 2=1 3=1 4");
        due("6 greatest", x.measure(100), true);
        x.clear();
        for (int i = 0; i < 34; i++) {
            x.add(0, 5, 3, 0);
        }
        due("6 is a hundred", Text.lines(x), "0=99 33=3 34");
    }

    private static void length() {
        TwoWayLines x = new TwoWayLines();
        for (int i = 0; i < 5; i++) {
            due("7 length", x.length(), i);
            x.add(12 + i, 0, 0, 0);
        }
        due("7 hidden ones count", x.length(), 5);
    }

    private static void paragraphLevel() {
        String[][] cases = {{"L R", "0"}, {"R L", "1"}, {"AL L", "1"}, {"EN AN WS S ON NSM", "0"},
                {"EN ON R", "1"}, {"RLI R PDI L", "0"}, {"LRI L PDI AL", "1"}, {"LRI R", "0"},
                {"RLI R PDI LRI R", "0"}, {"PDI R", "1"}, {"RLE L", "0"}, {"RLO WS R", "1"},
                {"FSI LRI L PDI L PDI R", "1"}, {"RLI R PDI", "0"}, {"LRI PDI PDI R L", "1"}};
        for (String[] c : cases) {
            due("8 " + c[0], "" + Text.of(2, c[0]).paragraphLevel(), c[1]);
            due("8 base 0 " + c[0], Text.of(0, c[0]).paragraphLevel(), 0);
            due("8 base 1 " + c[0], Text.of(1, c[0]).paragraphLevel(), 1);
        }
    }

    private static void match() {
        due("9 inner", Text.matches(Text.of(2, "LRI LRI PDI")), "- 2 1");
        due("9 lonely PDIs", Text.matches(Text.of(2, "PDI LRI PDI PDI")), "- 2 1 -");
        due("9 nested", Text.matches(Text.of(2, "LRI RLI FSI PDI PDI L PDI")), "6 4 3 2 1 - 0");
        due("9 side by side", Text.matches(Text.of(2, "LRI PDI RLE RLI R PDF PDI")),
                "1 0 - 6 - - 3");
        due("9 lost isolates match too", Text.matches(Text.of(0,
                "LRI LRI LRI RLI PDI PDI PDI PDI")), "7 6 5 4 3 2 1 0");
        TwoWayLines x = Text.of(2, "LRI PDI");
        for (int place : NO_PLACES) {
            due("9 match(" + place + ")", x.match(place), -1);
        }
        due("9 behind the last", x.match(2), -1);
    }

    private static void partner() {
        String[][] cases = {{"( [ ) ]", "2 - 0 -"}, {"( ( )", "- 2 1"}, {") (", "- -"},
                {"( ) )", "1 0 -"}, {"{ [ ( ) ] }", "5 4 3 2 1 0"}, {"( R ] )", "3 - - 0"},
                {"( LRI ) PDI )", "4 - - - 0"}, {"( RLE ) PDF", "- - - -"},
                {"LRO ( ) PDF ( )", "- - - - 5 4"}, {"( RLE PDF )", "3 - - 0"},
                {"( LRI L PDI )", "4 - - - 0"}, {"( [ ( ] )", "4 3 - 1 0"},
                {"LRI ( PDI L LRI ) PDI", "- - - - - - -"}, {"( NSM )", "2 - 0"}};
        for (String[] c : cases) {
            due("10 " + c[0], Text.partners(Text.of(0, c[0])), c[1]);
        }
        TwoWayLines x = Text.of(2, "( )");
        for (int place : NO_PLACES) {
            due("10 partner(" + place + ")", x.partner(place), -1);
        }
    }

    private static void types(int base, String text, String want) {
        due("11 base " + base + ": " + text, Text.types(Text.of(base, text)), want);
    }

    private static void weakTypes() {
        // W1
        types(0, "NSM NSM", "L L");
        types(1, "NSM L", "R L");
        types(1, "AL NSM EN", "R R AN");
        types(1, "R EN NSM", "R EN EN");
        types(1, "R ET NSM EN", "R EN EN EN");
        types(1, "L PDI NSM L", "L L L L");
        types(1, "AN PDF NSM", "AN - AN");
        // W2, W3
        types(1, "AL EN", "R AN");
        types(1, "AL WS EN", "R R AN");
        types(1, "AL L EN", "R L L");
        types(1, "AL R EN", "R R EN");
        types(1, "AL RLI L PDI EN", "R R L R AN");
        types(1, "AL LRI EN PDI", "R R L R");
        types(0, "L AL L", "L R L");
        types(0, "AL WS AL EN", "R R R AN");
        // W4
        types(1, "R EN ES EN", "R EN EN EN");
        types(1, "R EN CS EN CS EN", "R EN EN EN EN EN");
        types(1, "AL EN CS EN", "R AN AN AN");
        types(1, "AL EN ES EN", "R AN R AN");
        types(0, "AN CS AN", "AN AN AN");
        types(1, "R EN CS AN", "R EN R AN");
        types(1, "R EN CS CS EN", "R EN R R EN");
        types(1, "R EN ES ES EN", "R EN R R EN");
        types(1, "R EN ES", "R EN R");
        types(1, "ES EN", "R EN");
        types(1, "R EN RLE PDF CS EN", "R EN - - EN EN");
        // W5, W6
        types(1, "R ET ET EN ET", "R EN EN EN EN");
        types(1, "R ET AN", "R R AN");
        types(1, "ET EN", "EN EN");
        types(1, "AL ET EN", "R R AN");
        types(1, "R EN ET CS ET EN", "R EN EN R EN EN");
        types(1, "R EN ET ES EN", "R EN EN R EN");
        types(0, "R ET WS EN", "R R R EN");
        // W7
        types(0, "EN", "L");
        types(1, "EN L EN", "EN L L");
        types(0, "L WS EN", "L L L");
        types(0, "R EN", "R EN");
        types(0, "L AN EN", "L AN L");
        types(0, "L EN ES EN ET", "L L L L L");
    }

    private static void bracketTypes() {
        types(0, "R ( L ) R", "R L L L R");
        types(0, "R ( L R ) R", "R L L R L R");
        types(0, "L ( R ) R", "L L R L R");
        types(0, "R ( R ) L", "R R R R L");
        types(0, "( R )", "L R L");
        types(1, "( L )", "R L R");
        types(1, "L ( L ) R", "L L L L R");
        types(1, "L ( L R ) R", "L R L R R R");
        types(0, "R ( WS ) R", "R R R R R");
        types(0, "R ( WS ) L", "R L L L L");
        types(0, "R ( EN ) L", "R R EN R L");
        types(0, "AN ( AN ) L", "AN R AN R L");
        types(1, "EN ( L ) L", "EN R L R L");
        types(0, "R WS ( R ) L", "R R R R R L");
        types(0, "AL ON ( AL ) L", "R R R R R L");
        types(0, "RLE R PDF ( R ) L", "- R - R R R L");
        // an earlier pair counts for a later one
        types(0, "R ( L R ) [ R ] L", "R L L R L L R L L");
        types(0, "R [ ( R ) WS ] L", "R R R R R R R L");
        // one isolate's inside does not count for the pair around it
        types(0, "R ( LRI L PDI ) L", "R L L L L L L");
        types(0, "R ( LRI L PDI ) R", "R R R L R R R");
        // marks behind brackets
        types(0, "R ( NSM R ) NSM NSM L", "R R R R R R R L");
        types(0, "R ( L ) PDF NSM NSM R", "R L L L - L L R");
        types(0, "R ( NSM ) NSM L", "R L L L L L");
        types(1, "L ( NSM R ) NSM L", "L R R R R R L");
        types(0, "R ( L ) ON NSM R", "R L L L L L R");
        types(0, "R ( R ) NSM L", "R R R R R L");
        types(0, "R ( L ) NSM R", "R L L L L R");
    }

    private static void neutralTypes() {
        types(0, "R WS R", "R R R");
        types(0, "R S ON WS AN", "R R R R AN");
        types(0, "L WS R", "L L R");
        types(1, "L WS R", "L R R");
        types(1, "L WS ON L", "L L L L");
        types(0, "R WS EN", "R R EN");
        types(0, "AN ON AN", "AN R AN");
        types(0, "WS R", "L R");
        types(1, "WS L", "R L");
        types(1, "L WS", "L R");
        types(0, "R WS", "R L");
        types(0, "WS", "L");
        types(1, "WS", "R");
        // BEGINNING and END by the neighbours' levels
        types(0, "R WS RLE R PDF", "R R - R -");
        types(0, "RLE R PDF WS R", "- R - R R");
        types(0, "RLE WS R PDF L", "- R R - L");
        types(1, "R LRE WS L", "R - L L");
        types(1, "L LRE WS R WS PDF R", "L - L R L - R");
        types(0, "RLE L PDF LRE WS L", "- L - - L L");
        // the paragraph level is taken behind an opener without match
        types(0, "R WS RLI R", "R L L R");
        types(1, "L LRI L", "L R L");
        types(0, "R WS RLI", "R L L");
        // a sequence goes on behind the match
        types(0, "R LRI L PDI R", "R R L R R");
        types(0, "R LRI L PDI L", "R L L L L");
        types(0, "R PDI R", "R R R");
        types(0, "L RLI R PDI LRI R PDI WS L", "L L R L L R L L L");
        TwoWayLines x = Text.of(2, "L");
        for (int place : NO_PLACES) {
            due("11 type(" + place + ")", x.type(place), -1);
        }
    }

    private static void overriddenTypes() {
        types(0, "LRO R AL EN NSM S WS ( PDF R", "- L L L L L L L - R");
        types(0, "RLO L EN AN ET PDF L", "- R R R R - L");
        types(0, "RLO LRI L PDI PDF", "- R L R -");
        types(0, "LRO RLI R WS PDI PDF", "- L R R L -");
        types(0, "LRO RLE R PDF R PDF R", "- - R - L - R");
        types(0, "LRE RLE LRO RLO PDF", "- - - - -");
        types(0, "RLO L PDI L", "- R R R");
        types(0, "RLE RLE R PDF PDF LRO ON PDF RLE RLE R", "- - R - - - L - - - R");
        types(0, "LRE LRE L PDF PDF RLO ON PDF LRE LRE L", "- - L - - - R - - - L");
    }

    private static void levels(int base, String text, String want) {
        due("12 base " + base + ": " + text, Text.levels(Text.of(base, text)), want);
    }

    private static void embeddings() {
        levels(0, "L R EN AN", "0 1 2 2");
        levels(1, "L R EN AN", "2 1 2 2");
        levels(0, "RLE R L EN AN PDF L", "0 1 2 2 2 2 0");
        levels(0, "LRE L R EN PDF L", "0 2 3 4 4 0");
        levels(1, "LRE L PDF RLE R", "1 2 2 2 3");
        levels(0, "RLO L PDF LRO R", "0 1 1 1 2");
        levels(1, "RLO L PDF LRO R", "1 3 3 3 2");
        // more embeddings than fit, and their ends
        levels(0, "RLE R RLE R RLE R RLE R PDF R PDF R PDF R PDF R",
                "0 1 1 3 3 5 5 5 5 5 5 3 3 1 1 1");
        levels(0, "LRE LRE LRE L PDF L PDF L", "0 0 0 4 4 4 4 2");
        levels(0, "LRE LRE RLE L", "0 0 0 6");
        levels(0, "LRE LRE LRE RLE L", "0 0 0 0 4");
        levels(1, "LRE RLE LRE RLE L", "1 1 1 1 6");
        levels(0, "LRE LRE LRE LRE PDF RLE PDF PDF RLE L", "0 0 0 0 0 0 0 0 0 6");
        // ends without a beginning
        levels(0, "PDF R PDF PDF L", "0 1 1 1 0");
        levels(0, "PDF RLE L", "0 0 2");
    }

    private static void isolates() {
        levels(0, "RLI L PDI L", "0 2 0 0");
        levels(1, "LRI R PDI R", "1 3 1 1");
        levels(0, "FSI R PDI L", "0 1 0 0");
        levels(0, "FSI L R PDI L", "0 2 3 0 0");
        levels(0, "FSI ON LRI R PDI AL PDI L", "0 1 1 3 1 1 0 0");
        levels(0, "FSI LRI R", "0 2 5");
        levels(0, "FSI R", "0 1");
        levels(0, "FSI ON PDI R", "0 2 0 1");
        levels(1, "FSI ON PDI R", "1 2 1 1");
        levels(0, "FSI RLE L", "0 0 4");
        levels(0, "LRI RLE R PDI L", "0 0 3 0 0");
        levels(0, "RLI PDF L PDI L", "0 0 2 0 0");
        levels(0, "RLE PDI L", "0 1 2");
        levels(0, "LRI PDI RLE PDI L", "0 0 0 1 2");
        levels(0, "RLE LRI L PDI L PDF L", "0 1 2 1 2 2 0");
        // lost isolates
        levels(0, "LRE LRE LRI L PDI L PDF L", "0 0 4 4 4 4 4 2");
        levels(0, "LRE LRE LRI L PDF L PDI L", "0 0 4 4 4 4 4 4");
        levels(0, "LRE LRE LRI RLE PDI PDF L", "0 0 4 4 4 4 2");
        levels(0, "LRE LRE LRI RLI L PDI L PDI RLI L", "0 0 4 4 4 4 4 4 4 6");
        levels(0, "LRE LRE LRE RLI L PDI L", "0 0 0 4 4 4 4");
        levels(0, "LRI LRE LRE PDI RLE L", "0 0 0 0 0 2");
        levels(0, "LRI LRI LRI L PDI L PDI L PDI L PDI L", "0 2 4 4 4 4 2 2 0 0 0 0");
        levels(0, "RLI LRE LRE PDI L", "0 0 0 0 0");
        TwoWayLines x = Text.of(2, "R");
        for (int place : NO_PLACES) {
            due("12 level(" + place + ")", x.level(place), -1);
        }
        due("12 behind the last", x.level(1), -1);
    }

    private static void hiddenLevels() {
        levels(1, "LRE LRE L PDF PDF R", "1 1 4 4 4 1");
        levels(0, "R RLE PDF PDF EN LRO", "1 1 1 1 2 2");
        levels(1, "PDF", "1");
    }

    private static void mayBreak() {
        String[] table = {"0000010", "1010111", "0000000", "0000010", "0000000", "1010010",
                "1010010"};
        for (int p = 0; p < 7; p++) {
            for (int q = 0; q < 7; q++) {
                TwoWayLines x = new TwoWayLines();
                x.add(0, p, 1, 0);
                x.add(0, q, 1, 0);
                due("13 " + Text.GROUPS.get(p) + " " + Text.GROUPS.get(q), x.mayBreak(1),
                        table[p].charAt(q) == '1');
            }
        }
        String[][] cases = {{"L/OPENING L/BLANK L", ""}, {"L/OPENING L/BLANK L/BLANK L/FREE", ""},
                {"L/OPENING L L/BLANK L", "3"}, {"L L/BLANK L/GLUE L/FREE", "2"},
                {"L L/BLANK L/HYPHEN L", "2 3"}, {"L/FREE NSM L", "2"}, {"L NSM/FREE L", ""},
                {"NSM/FREE L", ""}, {"NSM/BLANK NSM/BLANK L L/FREE", "3"},
                {"L/BLANK NSM L", "2"}, {"L/OPENING NSM/BLANK L/BLANK L", ""},
                {"L/CLOSING L/BLANK L/CLOSING L/FREE", "3"}, {"L/HYPHEN L/HYPHEN L", "2"},
                {"L/OPENING L/BLANK L/OPENING L/BLANK L", ""}, {"L/FREE RLE/GLUE L/FREE", ""},
                {"L/OPENING L/BLANK NSM L/FREE", ""}};
        for (String[] c : cases) {
            due("13 " + c[0], Text.breaks(Text.of(0, c[0])), c[1]);
        }
        TwoWayLines x = Text.of(0, "L/FREE L/FREE");
        due("13 before the first", x.mayBreak(0), false);
        due("13 behind the last", x.mayBreak(2), false);
        for (int place : NO_PLACES) {
            due("13 mayBreak(" + place + ")", x.mayBreak(place), false);
        }
    }

    private static void filled(int measure, String text, String want) {
        due("14, 15, 16 measure " + measure + ": " + text,
                Text.lines(Text.of(0, measure, text)), want);
    }

    private static void lines() {
        filled(3, "L L L WS/BLANK WS/BLANK L", "0=3 5=1 6");
        filled(4, "L WS/BLANK L WS/BLANK L WS/BLANK L", "0=3 4=3 7");
        filled(5, "L WS/BLANK L WS/BLANK L WS/BLANK L", "0=5 6=1 7");
        filled(7, "L WS/BLANK L WS/BLANK L WS/BLANK L", "0=7 7");
        filled(2, "WS/BLANK:3 WS/BLANK:3", "0=0 2");
        filled(2, "WS/BLANK:3 L:1", "0=0 1=1 2");
        filled(4, "WS/BLANK:3 L:1", "0=4 2");
        // nothing may be broken
        filled(3, "L L L L L L L", "0=3 3=3 6=1 7");
        filled(3, "L L L/GLUE L L/FREE L/GLUE L", "0=3 3=1 4=3 7");
        filled(3, "L/OPENING L/BLANK L/BLANK L/BLANK L", "0=1 4=1 5");
        filled(2, "L L NSM L", "0=1 1=2 3=1 4");
        filled(2, "L:3 NSM:1 NSM:1 L L", "0=5 3=2 5");
        filled(2, "L:3 L:3", "0=3 1=3 2");
        filled(1, "L:3 NSM:3", "0=6 2");
        filled(1, "NSM NSM L", "0=2 2=1 3");
        // blanks by their groups, those of marks too
        filled(1, "L WS/BLANK NSM:3 L", "0=1 3=1 4");
        filled(2, "L/BLANK L/BLANK L/BLANK L:2", "0=0 3=2 4");
        filled(2, "WS WS WS", "0=2 2=1 3");
        filled(1, "L:0 L:0 L:0 LRI:3 L:1 L:0 L:1", "0=1 6=1 7");
        filled(2, "L WS/BLANK L/FREE:0 L/FREE:0 L/FREE:1", "0=2 4=1 5");
        TwoWayLines x = Text.of(0, 2, "L/FREE L/FREE L/FREE");
        due("14 lines", x.lines(), 2);
        due("15 start(2) is length()", x.start(2), 3);
        due("15 start(3)", x.start(3), -1);
        due("16 extent(2)", x.extent(2), -1);
        for (int line : NO_PLACES) {
            due("15 start(" + line + ")", x.start(line), -1);
            due("16 extent(" + line + ")", x.extent(line), -1);
        }
        x.measure(1);
        for (int i = 3; i < 64; i++) {
            x.add(0, 5, 1, 0);
        }
        due("14 sixty-four lines", x.lines(), 64);
        due("15 start of the last", x.start(63), 63);
        due("15 behind the last", x.start(64), 64);
        due("15 behind that", x.start(65), -1);
        due("16 extent of the last", x.extent(63), 1);
    }

    private static void shownLevels(int base, int measure, String text, String want) {
        due("17 base " + base + ": " + text, Text.shownLevels(Text.of(base, measure, text)), want);
    }

    private static void shownLevel() {
        shownLevels(0, 100, "R WS S R", "1 0 0 1");
        shownLevels(0, 100, "R LRI PDI RLE PDF WS S R", "1 0 0 0 0 0 0 1");
        shownLevels(0, 100, "R ON S R", "1 1 0 1");
        shownLevels(0, 100, "R WS ON S R", "1 1 1 0 1");
        shownLevels(0, 100, "R S WS R", "1 0 1 1");
        shownLevels(0, 100, "R PDF", "1 0");
        shownLevels(0, 100, "RLO WS S WS L WS", "0 0 0 1 1 0");
        shownLevels(1, 100, "LRE L S L WS", "1 2 1 2 1");
        shownLevels(0, 100, "R RLI R PDI", "1 0 1 0");
        shownLevels(0, 1, "R WS/BLANK R WS/BLANK R", "1 0 1 0 1");
        shownLevels(0, 3, "R WS/BLANK R WS/BLANK R", "1 1 1 0 1");
        shownLevels(0, 2, "R WS/FREE WS/FREE WS/FREE R/FREE", "1 0 0 0 1");
        shownLevels(0, 100, "R R/BLANK", "1 1");
        TwoWayLines x = Text.of(2, "R");
        for (int place : NO_PLACES) {
            due("17 shownLevel(" + place + ")", x.shownLevel(place), -1);
        }
        due("17 level stays", Text.levels(Text.of(0, 100, "R WS S R")), "1 1 1 1");
    }

    private static void order(int base, String text, String want) {
        due("18 base " + base + ": " + text, Text.order(Text.of(base, text), 0), want);
    }

    private static void shown() {
        order(0, "L L L", "0 1 2");
        order(0, "R R L R", "1 0 2 3");
        order(1, "R R R", "2 1 0");
        order(0, "L R R EN EN L", "0 3 4 2 1 5");
        order(1, "L L R L", "3 2 0 1");
        order(0, "RLE R LRE L L PDF R PDF L", "0 7 6 3 4 5 2 1 8");
        order(0, "R WS S R", "0 1 2 3");
        order(1, "L WS L S EN EN", "4 5 3 0 1 2");
        TwoWayLines x = Text.of(1, 2, "R L L R L");
        due("18 lines", Text.lines(x), "0=2 2=2 4=1 5");
        due("18 line 0", Text.order(x, 0), "1 0");
        due("18 line 1", Text.order(x, 1), "3 2");
        due("18 line 2", Text.order(x, 2), "4");
        due("18 number -1", x.shown(1, -1), -1);
        due("18 number 2", x.shown(1, 2), -1);
        due("18 number by far", x.shown(1, Integer.MAX_VALUE), -1);
        due("18 least number", x.shown(1, Integer.MIN_VALUE), -1);
        due("18 line 3", x.shown(3, 0), -1);
        for (int line : NO_PLACES) {
            due("18 shown(" + line + ", 0)", x.shown(line, 0), -1);
        }
    }

    private static void mirrored() {
        due("19 odd", Text.mirrored(Text.of(1, "R ( R ) R")), "1 3");
        due("19 even", Text.mirrored(Text.of(0, "L ( R ) L")), "");
        due("19 by brackets' context", Text.mirrored(Text.of(0, "R ( R ) R")), "1 3");
        due("19 without partner", Text.mirrored(Text.of(1, "] R (")), "0 2");
        due("19 overridden", Text.mirrored(Text.of(0, "RLO ( L ) PDF )")), "1 3");
        due("19 even above odd", Text.mirrored(Text.of(1, "LRO ( L ) PDF )")), "5");
        due("19 no pair", Text.mirrored(Text.of(1, "R ON EN WS")), "");
        TwoWayLines x = Text.of(1, "(");
        for (int place : NO_PLACES) {
            due("19 mirrored(" + place + ")", x.mirrored(place), false);
        }
        due("19 behind the last", x.mirrored(1), false);
    }
}
