/** The boundary cases of the calls, sentence by sentence: limits, refusals, places not there. */
public final class CallBoundariesTest {
    private static final int NONE = TwoWayLines.NONE;
    private static final int LEAST = Integer.MIN_VALUE;
    private static final int GREATEST = Integer.MAX_VALUE;
    private static final int ON = 11;
    /** Of every sort of character one, in two lines or more: every answer shows something. */
    private static final String MIXED =
            "R/FREE ( L/FREE:3 ) LRI EN/FREE NSM PDI WS/BLANK RLE AN/FREE:3 PDF S/FREE L/FREE:3";
    private static final Check CHECK = new Check();

    private CallBoundariesTest() {
    }

    public static void main(String[] args) {
        newObject();
        addUpToSixtyFour();
        addKinds();
        addGroups();
        addWidths();
        addPairs();
        addWhenFullAndWrong();
        drop();
        clear();
        base();
        measure();
        length();
        placesNotThere();
        placesOfFullOne();
        placesOfEmptyOne();
        hiddenHasNoType();
        mayBreakAtEnds();
        noLines();
        starts();
        extents();
        numbersNotThere();
        CHECK.end();
    }

    private static void sentence(String words) {
        CHECK.sentence(words);
    }

    private static void due(String what, Object got, Object want) {
        CHECK.due(what, got, want);
    }

    private static TwoWayLines filled(int many, int kind, int group) {
        TwoWayLines x = new TwoWayLines();
        for (int i = 0; i < many; i++) {
            x.add(kind, group, 1, 0);
        }
        return x;
    }

    private static void newObject() {
        sentence("1: an empty paragraph, base 2, measure 10");
        TwoWayLines x = new TwoWayLines();
        due("all of a new one", Text.everything(x), "0 characters, level 0; types ; levels ; "
                + "matches ; partners ; breaks ; lines 0; shown levels ; mirrored ; orders");
        due("drop", x.drop(), false);
        Text.put(x, "R");
        due("base is not 0", x.paragraphLevel(), 1);
        x.drop();
        Text.put(x, "L");
        due("base is not 1", x.paragraphLevel(), 0);
        due("ten fit", Text.lines(filled(10, 0, 5)), "0=10 10");
        due("eleven do not", Text.lines(filled(11, 0, 5)), "0=10 10=1 11");

        sentence("1: all that is told is of the paragraph, base and measure as they are then");
        TwoWayLines y = Text.of(2, 2, "R/FREE R/FREE L/FREE");
        due("at first", Text.shownLevels(y) + " " + Text.lines(y), "1 1 2 0=2 2=1 3");
        y.base(0);
        due("base 0", Text.shownLevels(y) + " " + Text.lines(y), "1 1 0 0=2 2=1 3");
        y.measure(3);
        due("measure 3", Text.lines(y) + " " + Text.order(y, 0), "0=3 3 1 0 2");
        Text.put(y, "WS");
        due("one more", Text.shownLevels(y) + " " + Text.lines(y), "1 1 0 0 0=3 3=1 4");
        y.drop();
        y.drop();
        due("two less", Text.shownLevels(y) + " " + Text.lines(y), "1 1 0=2 2");
    }

    private static void addUpToSixtyFour() {
        sentence("2: false, changing nothing, when 64 are there");
        TwoWayLines x = filled(63, 1, 5);
        due("the 64th", x.add(1, 5, 1, 0), true);
        due("64 are there", x.length(), 64);
        String before = Text.everything(x);
        for (int kind = 0; kind <= 20; kind++) {
            due("a 65th of kind " + kind, x.add(kind, 4, 3, 1), false);
            due("all, behind kind " + kind, Text.everything(x), before);
        }
        due("the last one", x.level(63), 1);
        due("behind it", x.level(64), NONE);
        due("room behind a drop", x.drop() && x.add(0, 5, 1, 0), true);
        due("the new one", x.type(63), 0);
        due("no room more", x.add(0, 5, 1, 0), false);
    }

    private static void addKinds() {
        sentence("2: false, changing nothing, when the kind is not 0 .. 20");
        TwoWayLines x = Text.of(2, 5, MIXED);
        String before = Text.everything(x);
        for (int kind : new int[] {-1, 21, 22, LEAST, GREATEST}) {
            due("kind " + kind, x.add(kind, 0, 1, 0), false);
        }
        due("all", Text.everything(x), before);
        for (int kind = 0; kind <= 20; kind++) {
            due("kind " + kind, new TwoWayLines().add(kind, 0, 1, 0), true);
        }
    }

    private static void addGroups() {
        sentence("2: false, changing nothing, when the group is not 0 .. 6");
        TwoWayLines x = Text.of(2, 5, MIXED);
        String before = Text.everything(x);
        for (int group : new int[] {-1, 7, 8, LEAST, GREATEST}) {
            for (int kind = 0; kind <= 20; kind++) {
                due("group " + group + " of kind " + kind, x.add(kind, group, 1, 0), false);
            }
        }
        due("all", Text.everything(x), before);
        for (int group = 0; group <= 6; group++) {
            due("group " + group, x.add(0, group, 1, 0), true);
        }
    }

    private static void addWidths() {
        sentence("2: false, changing nothing, when the width is not 0 .. 3");
        TwoWayLines x = Text.of(2, 5, MIXED);
        String before = Text.everything(x);
        for (int width : new int[] {-1, 4, 5, LEAST, GREATEST}) {
            for (int kind = 0; kind <= 20; kind++) {
                due("width " + width + " of kind " + kind, x.add(kind, 0, width, 0), false);
            }
        }
        due("all", Text.everything(x), before);
        for (int width = 0; width <= 3; width++) {
            TwoWayLines y = new TwoWayLines();
            due("width " + width, y.add(0, 0, width, 0), true);
            due("width " + width + " counts", y.extent(0), width);
        }

        sentence("the width of kinds 12 .. 20 counts as 0");
        for (int kind = 0; kind <= 20; kind++) {
            TwoWayLines y = new TwoWayLines();
            due("kind " + kind + " with width 3", y.add(kind, 0, 3, 0), true);
            due("width of kind " + kind, y.extent(0), kind < 12 ? 3 : 0);
        }
    }

    private static void addPairs() {
        sentence("2: false, changing nothing, when the pair is not -3 .. 3 (of any kind)");
        TwoWayLines x = Text.of(2, 5, MIXED);
        String before = Text.everything(x);
        for (int pair : new int[] {-4, 4, 5, LEAST, GREATEST}) {
            for (int kind = 0; kind <= 20; kind++) {
                due("pair " + pair + " of kind " + kind, x.add(kind, 0, 1, pair), false);
            }
        }
        due("all", Text.everything(x), before);
        for (int pair = -3; pair <= 3; pair++) {
            TwoWayLines y = new TwoWayLines();
            for (int kind = 0; kind <= 20; kind++) {
                due("pair " + pair + " of kind " + kind, y.add(kind, 0, 1, pair), true);
            }
        }

        sentence("a pair other than 0 counts for kind ON alone (for others it is 0)");
        for (int kind = 0; kind <= 20; kind++) {
            TwoWayLines y = new TwoWayLines();
            y.base(1);
            y.add(kind, 0, 1, 1);
            y.add(kind, 0, 1, -1);
            due("partner with kind " + kind, y.partner(0), kind == ON ? 1 : NONE);
            due("mirrored with kind " + kind, y.mirrored(1), kind == ON);
        }

        sentence("above 0 it opens, below 0 it closes the bracket with this number");
        for (int first = -3; first <= 3; first++) {
            for (int second = -3; second <= 3; second++) {
                TwoWayLines y = new TwoWayLines();
                y.add(ON, 0, 1, first);
                y.add(ON, 0, 1, second);
                boolean paired = first > 0 && second == -first;
                due("partner of " + first + " with " + second, y.partner(0), paired ? 1 : NONE);
                due("partner of " + second + " behind " + first, y.partner(1),
                        paired ? 0 : NONE);
            }
        }
    }

    private static void addWhenFullAndWrong() {
        sentence("2: changing nothing, when more than one of these is so");
        TwoWayLines x = filled(64, 1, 5);
        String before = Text.everything(x);
        due("full and wrong", x.add(21, 7, 4, 4), false);
        due("full and all the least", x.add(LEAST, LEAST, LEAST, LEAST), false);
        due("all", Text.everything(x), before);
        TwoWayLines y = new TwoWayLines();
        due("all wrong", y.add(-1, -1, -1, -4), false);
        due("none is there", y.length(), 0);
    }

    private static void drop() {
        sentence("3: takes the last character away");
        TwoWayLines x = Text.of(2, 1, "L/FREE R/FREE");
        due("two", x.drop() && x.length() == 1, true);
        due("the first one stays", Text.types(x) + " " + Text.lines(x), "L 0=1 1");
        due("the last one's place", x.level(1), NONE);

        sentence("3: false when there is none");
        due("the only one", x.drop(), true);
        due("of an empty one", x.drop(), false);
        due("once more", x.drop(), false);
        due("length", x.length(), 0);
        due("line 0", x.start(0), 0);
        Text.put(x, "R/FREE R/FREE");
        due("base and measure stay", x.paragraphLevel() + " " + Text.lines(x), "1 0=1 1=1 2");
        TwoWayLines full = filled(64, 0, 5);
        for (int left = 63; left >= 0; left--) {
            due("drop to " + left, full.drop() && full.length() == left, true);
        }
        due("drop of the full one, emptied", full.drop(), false);
    }

    private static void clear() {
        sentence("4: the paragraph becomes empty");
        TwoWayLines x = Text.of(2, 5, MIXED);
        due("before", x.length(), 14);
        x.clear();
        due("after", Text.everything(x), Text.everything(new TwoWayLines()));
        due("drop of it", x.drop(), false);
        x.clear();
        due("of an empty one", x.length(), 0);
        TwoWayLines full = filled(64, 0, 0);
        full.clear();
        for (int i = 0; i < 64; i++) {
            due("room again for " + i, full.add(1, 0, 1, 0), true);
        }
        due("and no more", full.add(1, 0, 1, 0), false);

        sentence("4: base and measure stay");
        for (int base = 0; base <= 2; base++) {
            for (int measure : new int[] {1, 10, 100}) {
                TwoWayLines y = Text.of(base, measure, MIXED);
                y.clear();
                due("level of an empty one, base " + base, y.paragraphLevel(), base == 1 ? 1 : 0);
                Text.put(y, MIXED);
                due("all, base " + base + ", measure " + measure, Text.everything(y),
                        Text.everything(Text.of(base, measure, MIXED)));
            }
        }
        TwoWayLines z = Text.of(0, 1, "R/FREE R/FREE");
        z.clear();
        Text.put(z, "R/FREE R/FREE");
        due("base 0, measure 1", z.paragraphLevel() + " " + Text.lines(z), "0 0=1 1=1 2");
    }

    private static void base() {
        sentence("5: false, changing nothing, when it is not 0, 1 or 2");
        for (int good = 0; good <= 2; good++) {
            for (int bad : new int[] {-1, 3, 4, LEAST, GREATEST}) {
                TwoWayLines x = Text.of(good, 5, MIXED);
                String before = Text.everything(x);
                due("base " + bad, x.base(bad), false);
                due("all, base " + good, Text.everything(x), before);
                x.clear();
                due("base " + good + " stays without R", x.paragraphLevel(), good == 1 ? 1 : 0);
                Text.put(x, "R");
                due("base " + good + " stays with R", x.paragraphLevel(), good == 0 ? 0 : 1);
            }
        }

        sentence("5: answers true for 0, 1 and 2");
        TwoWayLines x = Text.of(2, "R");
        for (int good = 0; good <= 2; good++) {
            due("base " + good, x.base(good), true);
            due("level with base " + good, x.paragraphLevel(), good == 0 ? 0 : 1);
            due("again " + good, x.base(good), true);
        }
    }

    private static void measure() {
        sentence("6: false, changing nothing, when it is not 1 .. 100");
        for (int bad : new int[] {0, -1, 101, 102, LEAST, GREATEST}) {
            TwoWayLines x = Text.of(2, 5, MIXED);
            String before = Text.everything(x);
            due("measure " + bad, x.measure(bad), false);
            due("all", Text.everything(x), before);
        }

        sentence("6: answers true for 1 .. 100");
        TwoWayLines wide = new TwoWayLines();
        for (int i = 0; i < 51; i++) {
            wide.add(0, 5, 2, 0);
        }
        for (int good = 1; good <= 100; good++) {
            due("measure " + good, wide.measure(good), true);
            due("extent with " + good, wide.extent(0), good < 2 ? 2 : good - good % 2);
        }
        due("lines with 100", Text.lines(wide), "0=100 50=2 51");
    }

    private static void length() {
        sentence("7: the number of characters");
        TwoWayLines x = new TwoWayLines();
        for (int i = 0; i < 64; i++) {
            due("length", x.length(), i);
            x.add(i % 21, i % 7, i % 4, i % 4);
        }
        due("all 64", x.length(), 64);
    }

    /** Each of the calls with a place, for a place that is not there. */
    private static void askNoPlace(TwoWayLines x, int place) {
        due("match " + place, x.match(place), NONE);
        due("partner " + place, x.partner(place), NONE);
        due("type " + place, x.type(place), NONE);
        due("level " + place, x.level(place), NONE);
        due("mayBreak " + place, x.mayBreak(place), false);
        due("shownLevel " + place, x.shownLevel(place), NONE);
        due("mirrored " + place, x.mirrored(place), false);
    }

    private static void placesNotThere() {
        sentence("9 to 13, 17, 19: NONE or false when there is no such place");
        TwoWayLines x = Text.of(1, 2, "LRI/FREE PDI/FREE (/FREE )/FREE");
        for (int place : new int[] {-1, -2, -64, LEAST, LEAST + 1, 4, 5, 63, 64, 65, 128,
            GREATEST - 1, GREATEST}) {
            askNoPlace(x, place);
        }
        due("they are there up to the last", Text.everything(x), "4 characters, level 1; "
                + "types R R R R; levels 1 1 1 1; matches 1 0 - -; partners - - 3 2; "
                + "breaks 1 2 3; lines 0=2 4; shown levels 1 1 1 1; mirrored 2 3; "
                + "orders 3 2 1 0;");
        x.drop();
        x.drop();
        x.drop();
        for (int place = 1; place <= 4; place++) {
            askNoPlace(x, place);
        }
    }

    private static void placesOfFullOne() {
        sentence("9 to 13, 17, 19: the last place of a full paragraph, and the one behind it");
        TwoWayLines x = filled(62, 1, 5);
        Text.put(x, "( )/FREE");
        due("partner", x.partner(63), 62);
        due("type", x.type(63), 1);
        due("level", x.level(63), 1);
        due("mayBreak", x.mayBreak(63), true);
        due("shownLevel", x.shownLevel(63), 1);
        due("mirrored", x.mirrored(63), true);
        askNoPlace(x, 64);
        TwoWayLines y = Text.of(2, "LRI");
        for (int i = 1; i < 63; i++) {
            y.add(0, 0, 1, 0);
        }
        due("no match as yet", y.match(0), NONE);
        Text.put(y, "PDI");
        due("match of the first", y.match(0), 63);
        due("match of the last", y.match(63), 0);
    }

    private static void placesOfEmptyOne() {
        sentence("9 to 13, 16 to 19: of an empty paragraph nothing is there");
        TwoWayLines cleared = Text.of(2, 1, MIXED);
        cleared.lines();
        cleared.clear();
        for (TwoWayLines x : new TwoWayLines[] {new TwoWayLines(), cleared}) {
            for (int number : new int[] {0, 1, -1, LEAST, GREATEST}) {
                askNoPlace(x, number);
                due("extent " + number, x.extent(number), NONE);
                due("shown " + number, x.shown(number, 0), NONE);
                due("shown 0, " + number, x.shown(0, number), NONE);
            }
        }
    }

    private static void hiddenHasNoType() {
        sentence("11: NONE when the character is hidden (openers and PDIs have one)");
        for (int kind = 0; kind <= 20; kind++) {
            TwoWayLines x = new TwoWayLines();
            x.base(1);
            x.add(kind, 0, 1, 0);
            boolean hidden = kind >= 12 && kind <= 16;
            due("type of kind " + kind + " is NONE", x.type(0) == NONE, hidden);
        }
        due("openers and PDIs", Text.types(Text.of(1, "LRI RLI FSI PDI PDI PDI PDI")),
                "R L R R L R R");

        sentence("9: NONE when there is neither an opener nor a PDI at that place");
        for (int kind = 0; kind <= 16; kind++) {
            TwoWayLines x = Text.of(2, "LRI");
            x.add(kind, 0, 1, 0);
            Text.put(x, "PDI");
            due("match of kind " + kind, x.match(1), NONE);
            due("match around kind " + kind, x.match(0) * 10 + x.match(2), 20);
        }
    }

    private static void mayBreakAtEnds() {
        sentence("13: false before the first one and behind the last one, too");
        TwoWayLines one = Text.of(0, "L/FREE");
        due("before the only one", one.mayBreak(0), false);
        due("behind the only one", one.mayBreak(1), false);
        TwoWayLines x = Text.of(0, "L/FREE L/FREE L/FREE");
        due("before the first", x.mayBreak(0), false);
        due("before the second", x.mayBreak(1), true);
        due("before the last", x.mayBreak(2), true);
        due("behind the last", x.mayBreak(3), false);
        x.drop();
        due("behind the new last", x.mayBreak(2), false);
    }

    private static void noLines() {
        sentence("14: 0 when the paragraph is empty");
        due("a new one", new TwoWayLines().lines(), 0);
        TwoWayLines x = Text.of(0, 1, "L/FREE L/FREE");
        due("two", x.lines(), 2);
        due("dropped", x.drop() && x.drop() ? x.lines() : NONE, 0);
        Text.put(x, "LRE:3");
        due("one hidden one", x.lines(), 1);
        x.clear();
        due("cleared", x.lines(), 0);
    }

    private static void starts() {
        sentence("15: length() for the line behind the last one");
        TwoWayLines x = Text.of(0, 2, "L/FREE L/FREE L/FREE L/FREE L/FREE");
        due("lines", x.lines(), 3);
        due("line 0", x.start(0), 0);
        due("line 2", x.start(2), 4);
        due("line 3", x.start(3), 5);
        x.drop();
        due("line 2, now behind the last one", x.start(2), 4);
        due("line 3, now no more", x.start(3), NONE);

        sentence("15: 0 for line 0 of an empty paragraph");
        due("a new one", new TwoWayLines().start(0), 0);
        x.clear();
        due("a cleared one", x.start(0), 0);

        sentence("15: NONE for others that are not there");
        TwoWayLines y = Text.of(0, 1, "L/FREE L/FREE");
        for (int line : new int[] {-1, -2, 3, 4, 63, 64, 65, LEAST, GREATEST}) {
            due("line " + line, y.start(line), NONE);
            due("line " + line + " of an empty one", x.start(line), NONE);
        }
        due("line 1 of an empty one", x.start(1), NONE);
        y.measure(2);
        due("line 2, when there is only one", y.start(2), NONE);
        TwoWayLines full = filled(64, 0, 5);
        full.measure(1);
        due("line 64 of 64", full.start(64), 64);
        due("line 65 of 64", full.start(65), NONE);
        due("line 66 of 64", full.start(66), NONE);
    }

    private static void extents() {
        sentence("16: NONE when there is no such line");
        TwoWayLines x = Text.of(0, 1, "L/FREE L/FREE");
        due("line 1", x.extent(1), 1);
        for (int line : new int[] {2, 3, -1, -2, 63, 64, 65, LEAST, GREATEST}) {
            due("line " + line, x.extent(line), NONE);
        }
        x.measure(2);
        due("line 1, when there is only one", x.extent(1), NONE);
        TwoWayLines full = filled(64, 0, 5);
        full.measure(1);
        due("line 63 of 64", full.extent(63), 1);
        due("line 64 of 64", full.extent(64), NONE);
    }

    private static void numbersNotThere() {
        sentence("18: NONE when there is no such line");
        TwoWayLines x = Text.of(1, 2, "R/FREE R/FREE R/FREE");
        for (int line : new int[] {2, 3, -1, -2, 63, 64, 65, LEAST, GREATEST}) {
            for (int k : new int[] {0, 1, -1, LEAST, GREATEST}) {
                due("line " + line + ", number " + k, x.shown(line, k), NONE);
            }
        }

        sentence("18: NONE when it has no such number");
        due("line 0", Text.order(x, 0), "1 0");
        due("line 1", Text.order(x, 1), "2");
        for (int k : new int[] {2, 3, -1, -2, 63, 64, LEAST, GREATEST, GREATEST - 1}) {
            due("line 0, number " + k, x.shown(0, k), NONE);
            due("line 1, number " + k, x.shown(1, k), NONE);
        }
        due("line 1, number 1", x.shown(1, 1), NONE);
        TwoWayLines full = filled(64, 1, 0);
        full.measure(100);
        due("number 63 of 64", full.shown(0, 63), 0);
        due("number 64 of 64", full.shown(0, 64), NONE);
    }
}
