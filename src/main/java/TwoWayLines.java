/**
 * Lays out one paragraph whose characters run from left to right and from right to left.
 * The words in capitals in the comments (MATCH, SEQUENCE, BEGINNING ..) are those of the
 * document's section 'Terms'.
 *
 * All rows are made by the constructors and used again, so that no call makes an object; what is
 * asked is worked out at the first question after a change and kept until the next change.
 */
public final class TwoWayLines {
    public static final int NONE = -1;

    private static final int LIMIT = 64;
    private static final int DEEPEST = 5;
    private static final int BASE_BY_TEXT = 2;
    private static final int FIRST_MEASURE = 10;
    private static final int WIDEST_MEASURE = 100;
    private static final int WIDEST_CHARACTER = 3;
    private static final int LAST_PAIR = 3;

    private static final int L = 0;
    private static final int R = 1;
    private static final int AL = 2;
    private static final int EN = 3;
    private static final int ES = 4;
    private static final int ET = 5;
    private static final int AN = 6;
    private static final int CS = 7;
    private static final int NSM = 8;
    private static final int WS = 9;
    private static final int S = 10;
    private static final int ON = 11;
    private static final int LRE = 12;
    private static final int RLE = 13;
    private static final int LRO = 14;
    private static final int RLO = 15;
    private static final int PDF = 16;
    private static final int LRI = 17;
    private static final int RLI = 18;
    private static final int FSI = 19;
    private static final int PDI = 20;

    private static final int WORD = 0;
    private static final int BLANK = 1;
    private static final int OPENING = 2;
    private static final int CLOSING = 3;
    private static final int GLUE = 4;
    private static final int FREE = 5;
    private static final int HYPHEN = 6;

    private final Paragraph paragraph;
    private final Levels levels;
    private final Filling filling;
    private final Showing showing;
    private int measure;
    private boolean stale;

    public TwoWayLines() {
        paragraph = new Paragraph();
        levels = new Levels();
        filling = new Filling();
        showing = new Showing();
        measure = FIRST_MEASURE;
        stale = true;
    }

    public boolean add(int kind, int group, int width, int pair) {
        if (!within(kind, L, PDI) || !within(group, WORD, HYPHEN)) {
            return false;
        }
        if (!within(width, 0, WIDEST_CHARACTER) || !within(pair, -LAST_PAIR, LAST_PAIR)) {
            return false;
        }
        if (!paragraph.append(kind, group, width, pair)) {
            return false;
        }
        stale = true;
        return true;
    }

    public boolean drop() {
        if (paragraph.size == 0) {
            return false;
        }
        paragraph.size--;
        stale = true;
        return true;
    }

    public void clear() {
        paragraph.size = 0;
        stale = true;
    }

    public boolean base(int b) {
        if (!within(b, 0, BASE_BY_TEXT)) {
            return false;
        }
        paragraph.base = b;
        stale = true;
        return true;
    }

    public boolean measure(int m) {
        if (!within(m, 1, WIDEST_MEASURE)) {
            return false;
        }
        measure = m;
        stale = true;
        return true;
    }

    public int length() {
        return paragraph.size;
    }

    public int paragraphLevel() {
        layOut();
        return levels.ofParagraph;
    }

    public int match(int place) {
        if (!paragraph.has(place)) {
            return NONE;
        }
        layOut();
        return levels.matches.others[place];
    }

    public int partner(int place) {
        if (!paragraph.has(place)) {
            return NONE;
        }
        layOut();
        return levels.partners[place];
    }

    public int type(int place) {
        if (!paragraph.has(place)) {
            return NONE;
        }
        layOut();
        return levels.types[place];
    }

    public int level(int place) {
        if (!paragraph.has(place)) {
            return NONE;
        }
        layOut();
        return levels.resolved[place];
    }

    public boolean mayBreak(int place) {
        if (!paragraph.has(place)) {
            return false;
        }
        layOut();
        return filling.breaks[place];
    }

    public int lines() {
        layOut();
        return filling.count;
    }

    public int start(int line) {
        layOut();
        return within(line, 0, filling.count) ? filling.starts[line] : NONE;
    }

    public int extent(int line) {
        layOut();
        return filling.has(line) ? filling.extents[line] : NONE;
    }

    public int shownLevel(int place) {
        if (!paragraph.has(place)) {
            return NONE;
        }
        layOut();
        return showing.levels[place];
    }

    public int shown(int line, int k) {
        layOut();
        if (!filling.has(line)) {
            return NONE;
        }
        int from = filling.starts[line];
        int many = filling.starts[line + 1] - from;
        return within(k, 0, many - 1) ? showing.order[from + k] : NONE;
    }

    public boolean mirrored(int place) {
        if (!paragraph.has(place)) {
            return false;
        }
        layOut();
        return paragraph.pairs[place] != 0 && isOdd(showing.levels[place]);
    }

    private void layOut() {
        if (!stale) {
            return;
        }
        levels.readMarks(paragraph);
        levels.resolveSequences(paragraph);
        levels.raise(paragraph);
        filling.fill(paragraph, measure);
        showing.arrange(paragraph, levels, filling);
        stale = false;
    }

    private static boolean within(int number, int least, int greatest) {
        return number >= least && number <= greatest;
    }

    private static boolean isOdd(int number) {
        return (number & 1) == 1;
    }

    private static boolean isHidden(int kind) {
        return kind >= LRE && kind <= PDF;
    }

    private static boolean isOpener(int kind) {
        return kind >= LRI && kind <= FSI;
    }

    private static boolean isIsolateMark(int kind) {
        return kind >= LRI && kind <= PDI;
    }

    private static int sideOf(int level) {
        return isOdd(level) ? R : L;
    }

    /** The characters as they were added, with the widths and pairs that count. */
    private static final class Paragraph {
        final int[] kinds = new int[LIMIT];
        final int[] groups = new int[LIMIT];
        final int[] widths = new int[LIMIT];
        final int[] pairs = new int[LIMIT];
        int size = 0;
        int base = BASE_BY_TEXT;

        boolean append(int kind, int group, int width, int pair) {
            if (size >= LIMIT) {
                return false;
            }
            kinds[size] = kind;
            groups[size] = group;
            widths[size] = kind >= LRE ? 0 : width;
            pairs[size] = kind == ON ? pair : 0;
            size++;
            return true;
        }

        boolean has(int place) {
            return place >= 0 && place < size;
        }
    }

    /** The MATCH of every opener and PDI, and the DIRECTION, which leaps over matched ones. */
    private static final class Matches {
        final int[] others = new int[LIMIT];
        private final int[] waiting = new int[LIMIT];

        void find(Paragraph paragraph) {
            int depth = 0;
            for (int place = 0; place < paragraph.size; place++) {
                int kind = paragraph.kinds[place];
                others[place] = NONE;
                if (isOpener(kind)) {
                    waiting[depth] = place;
                    depth++;
                } else if (kind == PDI && depth > 0) {
                    depth--;
                    int opener = waiting[depth];
                    others[opener] = place;
                    others[place] = opener;
                }
            }
        }

        int direction(Paragraph paragraph, int from, int to) {
            int resume = from;
            for (int place = from; place < to; place++) {
                if (place < resume) {
                    continue;
                }
                int kind = paragraph.kinds[place];
                if (kind == L) {
                    return 0;
                }
                if (kind == R || kind == AL) {
                    return 1;
                }
                if (isOpener(kind)) {
                    if (others[place] == NONE) {
                        return 0;
                    }
                    resume = others[place] + 1;
                }
            }
            return 0;
        }
    }

    /** The EXPLICIT LEVELS, and the types before the sequences' steps; of hidden ones neither. */
    private static final class Explicit {
        final int[] levels = new int[LIMIT];
        final int[] types = new int[LIMIT];
        // The levels rise from entry to entry up to DEEPEST, so there is never an entry more.
        private final int[] entryLevels = new int[DEEPEST + 1];
        private final int[] entryOverrides = new int[DEEPEST + 1];
        private final boolean[] entryIsolates = new boolean[DEEPEST + 1];
        private int last = 0;
        private int lostIsolates = 0;
        private int lostEmbeddings = 0;
        private int openIsolates = 0;

        void assign(Paragraph paragraph, Matches matches, int paragraphLevel) {
            begin(paragraphLevel);
            for (int place = 0; place < paragraph.size; place++) {
                int kind = paragraph.kinds[place];
                if (kind == PDI) {
                    endIsolate();
                }
                if (kind == PDF) {
                    endEmbedding();
                } else if (isHidden(kind)) {
                    beginEmbedding(kind);
                } else {
                    give(place, kind);
                }
                if (isOpener(kind)) {
                    beginIsolate(wantsOdd(paragraph, matches, place));
                }
            }
        }

        private void begin(int paragraphLevel) {
            lostIsolates = 0;
            lostEmbeddings = 0;
            openIsolates = 0;
            last = 0;
            entryLevels[0] = paragraphLevel;
            entryOverrides[0] = NONE;
            entryIsolates[0] = false;
        }

        private void give(int place, int kind) {
            levels[place] = entryLevels[last];
            types[place] = entryOverrides[last] == NONE ? kind : entryOverrides[last];
        }

        private boolean wantsOdd(Paragraph paragraph, Matches matches, int opener) {
            if (paragraph.kinds[opener] != FSI) {
                return paragraph.kinds[opener] == RLI;
            }
            int match = matches.others[opener];
            int to = match == NONE ? paragraph.size : match;
            return matches.direction(paragraph, opener + 1, to) == 1;
        }

        private int nextLevel(boolean odd) {
            int next = entryLevels[last] + 1;
            return isOdd(next) == odd ? next : next + 1;
        }

        private boolean fits(int level) {
            return level <= DEEPEST && lostIsolates == 0 && lostEmbeddings == 0;
        }

        private void push(int level, int override, boolean isolate) {
            if (last < DEEPEST) {
                last++;
                entryLevels[last] = level;
                entryOverrides[last] = override;
                entryIsolates[last] = isolate;
            }
        }

        private void beginEmbedding(int kind) {
            int next = nextLevel(kind == RLE || kind == RLO);
            if (fits(next)) {
                push(next, overrideOf(kind), false);
            } else if (lostIsolates == 0) {
                lostEmbeddings++;
            }
        }

        private static int overrideOf(int kind) {
            if (kind == LRO) {
                return L;
            }
            return kind == RLO ? R : NONE;
        }

        private void endEmbedding() {
            if (lostIsolates > 0) {
                return;
            }
            if (lostEmbeddings > 0) {
                lostEmbeddings--;
            } else if (last > 0 && !entryIsolates[last]) {
                last--;
            }
        }

        private void beginIsolate(boolean odd) {
            int next = nextLevel(odd);
            if (fits(next)) {
                openIsolates++;
                push(next, NONE, true);
            } else {
                lostIsolates++;
            }
        }

        private void endIsolate() {
            if (lostIsolates > 0) {
                lostIsolates--;
            } else if (openIsolates > 0) {
                lostEmbeddings = 0;
                for (int entry = last; entry > 0 && !entryIsolates[entry]; entry--) {
                    last--;
                }
                if (last > 0) {
                    last--;
                }
                openIsolates--;
            }
        }
    }

    /** One SEQUENCE: its characters' places and types, and the steps W1 to W7, N1 and N2. */
    private static final class Sequence {
        final int[] places = new int[LIMIT];
        final int[] types = new int[LIMIT];
        final boolean[] marks = new boolean[LIMIT];
        int count = 0;
        int embedding = L;
        int beginning = L;
        int end = L;

        void append(int place, int type) {
            if (count < LIMIT) {
                places[count] = place;
                types[count] = type;
                count++;
            }
        }

        void resolveWeak() {
            joinMarks();
            turnArabicNumbers();
            turnSeparators();
            turnTerminators();
            freeLeftovers();
            turnLatinNumbers();
        }

        /** W1. */
        private void joinMarks() {
            int before = beginning;
            for (int i = 0; i < count; i++) {
                marks[i] = types[i] == NSM;
                if (marks[i]) {
                    types[i] = isIsolateMark(before) ? ON : before;
                }
                before = types[i];
            }
        }

        /** W2 and W3: in one walk, for the AL is remembered before it becomes R. */
        private void turnArabicNumbers() {
            int strong = NONE;
            for (int i = 0; i < count; i++) {
                int type = types[i];
                if (type == L || type == R || type == AL) {
                    strong = type;
                }
                if (type == EN && strong == AL) {
                    types[i] = AN;
                } else if (type == AL) {
                    types[i] = R;
                }
            }
        }

        /** W4: in place, for what stands beside a separator that is turned was a number before. */
        private void turnSeparators() {
            for (int i = 1; i < count - 1; i++) {
                int side = types[i - 1];
                if (side != types[i + 1]) {
                    continue;
                }
                boolean turns = types[i] == ES && side == EN
                        || types[i] == CS && (side == EN || side == AN);
                if (turns) {
                    types[i] = side;
                }
            }
        }

        /** W5: once to the right and once to the left, so that a whole row is reached. */
        private void turnTerminators() {
            for (int i = 1; i < count; i++) {
                if (types[i] == ET && types[i - 1] == EN) {
                    types[i] = EN;
                }
            }
            for (int i = count - 2; i >= 0; i--) {
                if (types[i] == ET && types[i + 1] == EN) {
                    types[i] = EN;
                }
            }
        }

        /** W6. */
        private void freeLeftovers() {
            for (int i = 0; i < count; i++) {
                if (types[i] == ES || types[i] == ET || types[i] == CS) {
                    types[i] = ON;
                }
            }
        }

        /** W7. */
        private void turnLatinNumbers() {
            int strong = beginning;
            for (int i = 0; i < count; i++) {
                if (types[i] == L || types[i] == R) {
                    strong = types[i];
                } else if (types[i] == EN && strong == L) {
                    types[i] = L;
                }
            }
        }

        /** N1 and N2: row by row, for a row's sides are never of another such row. */
        void resolveNeutral() {
            int first = 0;
            for (int i = 0; i <= count; i++) {
                if (i < count && strongAt(i) == NONE) {
                    continue;
                }
                int before = first == 0 ? beginning : strongAt(first - 1);
                int behind = i == count ? end : strongAt(i);
                fillTypes(first, i, before == behind ? before : embedding);
                first = i + 1;
            }
        }

        private void fillTypes(int from, int to, int type) {
            for (int i = from; i < to; i++) {
                types[i] = type;
            }
        }

        /** L or R, as which EN and AN count too; NONE for all others. */
        int strongAt(int i) {
            int type = types[i];
            if (type == L) {
                return L;
            }
            return type == R || type == EN || type == AN ? R : NONE;
        }
    }

    /** N0 of one SEQUENCE; partners are told by their numbers in the sequence. */
    private static final class Brackets {
        final int[] partners = new int[LIMIT];
        private final int[] list = new int[LIMIT];

        void resolve(Paragraph paragraph, Sequence sequence) {
            pairUp(paragraph, sequence);
            for (int i = 0; i < sequence.count; i++) {
                if (partners[i] > i) {
                    settle(sequence, i, partners[i]);
                }
            }
        }

        private void pairUp(Paragraph paragraph, Sequence sequence) {
            int listed = 0;
            for (int i = 0; i < sequence.count; i++) {
                partners[i] = NONE;
                int pair = paragraph.pairs[sequence.places[i]];
                if (pair == 0 || sequence.types[i] != ON) {
                    continue;
                }
                if (pair < 0) {
                    listed = close(paragraph, sequence, i, listed);
                } else {
                    list[listed] = i;
                    listed++;
                }
            }
        }

        /** Answers how many opening ones are left on the list. */
        private int close(Paragraph paragraph, Sequence sequence, int closing, int listed) {
            int number = -paragraph.pairs[sequence.places[closing]];
            for (int at = listed - 1; at >= 0; at--) {
                int opening = list[at];
                if (paragraph.pairs[sequence.places[opening]] == number) {
                    partners[opening] = closing;
                    partners[closing] = opening;
                    return at;
                }
            }
            return listed;
        }

        private void settle(Sequence sequence, int opening, int closing) {
            int type = strongBetween(sequence, opening, closing);
            if (type == NONE) {
                return;
            }
            if (type != sequence.embedding && strongBefore(sequence, opening) != type) {
                type = sequence.embedding;
            }
            give(sequence, opening, type);
            give(sequence, closing, type);
        }

        /** EMBEDDING, if that is between, else the other one of L and R, else NONE. */
        private int strongBetween(Sequence sequence, int opening, int closing) {
            int found = NONE;
            for (int i = opening + 1; i < closing; i++) {
                int strong = sequence.strongAt(i);
                if (strong == sequence.embedding) {
                    return strong;
                }
                if (strong != NONE) {
                    found = strong;
                }
            }
            return found;
        }

        private int strongBefore(Sequence sequence, int opening) {
            for (int i = opening - 1; i >= 0; i--) {
                if (sequence.strongAt(i) != NONE) {
                    return sequence.strongAt(i);
                }
            }
            return sequence.beginning;
        }

        private void give(Sequence sequence, int bracket, int type) {
            sequence.types[bracket] = type;
            for (int i = bracket + 1; i < sequence.count && sequence.marks[i]; i++) {
                sequence.types[i] = type;
            }
        }
    }

    /** The PARAGRAPH LEVEL, and each character's type, partner and RESOLVED LEVEL. */
    private static final class Levels {
        final Matches matches = new Matches();
        final int[] types = new int[LIMIT];
        final int[] partners = new int[LIMIT];
        final int[] resolved = new int[LIMIT];
        int ofParagraph = 0;
        private final Explicit explicit = new Explicit();
        private final Sequence sequence = new Sequence();
        private final Brackets brackets = new Brackets();

        void readMarks(Paragraph paragraph) {
            matches.find(paragraph);
            ofParagraph = paragraph.base;
            if (paragraph.base == BASE_BY_TEXT) {
                ofParagraph = matches.direction(paragraph, 0, paragraph.size);
            }
            explicit.assign(paragraph, matches, ofParagraph);
        }

        void resolveSequences(Paragraph paragraph) {
            for (int place = 0; place < paragraph.size; place++) {
                types[place] = NONE;
                partners[place] = NONE;
            }
            for (int place = 0; place < paragraph.size; place++) {
                if (beginsSequence(paragraph, place)) {
                    gather(paragraph, place);
                    setSides(paragraph);
                    sequence.resolveWeak();
                    brackets.resolve(paragraph, sequence);
                    sequence.resolveNeutral();
                    keep();
                }
            }
        }

        private boolean beginsSequence(Paragraph paragraph, int place) {
            int kind = paragraph.kinds[place];
            if (isHidden(kind) || kind == PDI && matches.others[place] != NONE) {
                return false;
            }
            int before = visibleBefore(paragraph, place);
            return before == NONE || explicit.levels[before] != explicit.levels[place];
        }

        private int visibleBefore(Paragraph paragraph, int place) {
            for (int at = place - 1; at >= 0; at--) {
                if (!isHidden(paragraph.kinds[at])) {
                    return at;
                }
            }
            return NONE;
        }

        private int visibleBehind(Paragraph paragraph, int place) {
            for (int at = place + 1; at < paragraph.size; at++) {
                if (!isHidden(paragraph.kinds[at])) {
                    return at;
                }
            }
            return NONE;
        }

        /** A matched PDI behind another level begins its run, so runs are taken from there on. */
        private void gather(Paragraph paragraph, int first) {
            sequence.count = 0;
            int from = first;
            for (int runs = 0; runs < LIMIT && from != NONE; runs++) {
                int last = takeRun(paragraph, from);
                from = isOpener(paragraph.kinds[last]) ? matches.others[last] : NONE;
            }
        }

        /** Answers the place of the run's last character. */
        private int takeRun(Paragraph paragraph, int first) {
            int last = first;
            for (int place = first; place < paragraph.size; place++) {
                if (isHidden(paragraph.kinds[place])) {
                    continue;
                }
                if (explicit.levels[place] != explicit.levels[first]) {
                    break;
                }
                sequence.append(place, explicit.types[place]);
                last = place;
            }
            return last;
        }

        private void setSides(Paragraph paragraph) {
            int first = sequence.places[0];
            int last = sequence.places[sequence.count - 1];
            int level = explicit.levels[first];
            int before = visibleBefore(paragraph, first);
            // A matched opener is never the last one: the run of its match follows.
            int behind = isOpener(paragraph.kinds[last]) ? NONE : visibleBehind(paragraph, last);
            sequence.embedding = sideOf(level);
            sequence.beginning = sideOf(Math.max(level, levelBeside(before)));
            sequence.end = sideOf(Math.max(level, levelBeside(behind)));
        }

        private int levelBeside(int place) {
            return place == NONE ? ofParagraph : explicit.levels[place];
        }

        private void keep() {
            for (int i = 0; i < sequence.count; i++) {
                int place = sequence.places[i];
                types[place] = sequence.types[i];
                if (brackets.partners[i] != NONE) {
                    partners[place] = sequence.places[brackets.partners[i]];
                }
            }
        }

        /** A hidden character takes over the level before it. */
        void raise(Paragraph paragraph) {
            int before = ofParagraph;
            for (int place = 0; place < paragraph.size; place++) {
                if (!isHidden(paragraph.kinds[place])) {
                    before = raised(explicit.levels[place], types[place]);
                }
                resolved[place] = before;
            }
        }

        private static int raised(int level, int type) {
            if (isOdd(level)) {
                return type == R ? level : level + 1;
            }
            if (type == L) {
                return level;
            }
            return type == R ? level + 1 : level + 2;
        }
    }

    /** The BREAKS, and the LINES filled up to the measure. */
    private static final class Filling {
        final boolean[] breaks = new boolean[LIMIT];
        // One start more than lines: the end of the paragraph is that of the line behind the last.
        final int[] starts = new int[LIMIT + 1];
        final int[] extents = new int[LIMIT];
        int count = 0;
        private final int[] groups = new int[LIMIT];

        boolean has(int line) {
            return line >= 0 && line < count;
        }

        void fill(Paragraph paragraph, int measure) {
            findGroups(paragraph);
            findBreaks(paragraph);
            count = 0;
            starts[0] = 0;
            for (int line = 0; line < LIMIT && starts[line] < paragraph.size; line++) {
                int to = endOfLine(paragraph, starts[line], measure);
                extents[line] = extentOf(paragraph, starts[line], to);
                starts[line + 1] = to;
                count = line + 1;
            }
        }

        private void findGroups(Paragraph paragraph) {
            int group = WORD;
            for (int place = 0; place < paragraph.size; place++) {
                if (paragraph.kinds[place] != NSM) {
                    group = paragraph.groups[place];
                }
                groups[place] = group;
            }
        }

        private void findBreaks(Paragraph paragraph) {
            int solid = NONE;
            for (int place = 0; place < paragraph.size; place++) {
                boolean inside = place > 0 && paragraph.kinds[place] != NSM;
                breaks[place] = inside && parts(solid, groups[place - 1], groups[place]);
                if (groups[place] != BLANK) {
                    solid = groups[place];
                }
            }
        }

        /** Solid is the group of the nearest earlier character that is not BLANK. */
        private static boolean parts(int solid, int before, int here) {
            if (here == BLANK || here == CLOSING || solid == OPENING) {
                return false;
            }
            if (before == BLANK) {
                return true;
            }
            if (before == GLUE || here == GLUE || here == HYPHEN) {
                return false;
            }
            return before == HYPHEN || before == FREE || here == FREE;
        }

        private int endOfLine(Paragraph paragraph, int from, int measure) {
            int broken = NONE;
            int cut = NONE;
            int sum = 0;
            int extent = 0;
            for (int to = from + 1; to <= paragraph.size; to++) {
                sum += paragraph.widths[to - 1];
                extent = groups[to - 1] == BLANK ? extent : sum;
                boolean atEnd = to == paragraph.size;
                boolean mayCut = atEnd || paragraph.kinds[to] != NSM;
                boolean fits = extent <= measure;
                if (mayCut && (fits || cut == NONE)) {
                    cut = to;
                }
                if (fits && (atEnd || breaks[to])) {
                    broken = to;
                }
            }
            return broken == NONE ? cut : broken;
        }

        private int extentOf(Paragraph paragraph, int from, int to) {
            int sum = 0;
            int extent = 0;
            for (int place = from; place < to; place++) {
                sum += paragraph.widths[place];
                extent = groups[place] == BLANK ? extent : sum;
            }
            return extent;
        }
    }

    /** The SHOWN LEVELS, and each line's ORDER from the number of the line's start on. */
    private static final class Showing {
        final int[] levels = new int[LIMIT];
        final int[] order = new int[LIMIT];

        void arrange(Paragraph paragraph, Levels resolved, Filling filling) {
            for (int line = 0; line < filling.count; line++) {
                int from = filling.starts[line];
                int to = filling.starts[line + 1];
                setLevels(paragraph, resolved, from, to);
                setOrder(from, to);
            }
        }

        private void setLevels(Paragraph paragraph, Levels resolved, int from, int to) {
            boolean trailing = true;
            for (int place = to - 1; place >= from; place--) {
                int kind = paragraph.kinds[place];
                boolean blank = kind == WS || isIsolateMark(kind) || isHidden(kind);
                trailing = kind == S || trailing && blank;
                levels[place] = trailing ? resolved.ofParagraph : resolved.resolved[place];
            }
        }

        private void setOrder(int from, int to) {
            int highest = 0;
            for (int place = from; place < to; place++) {
                order[place] = place;
                highest = Math.max(highest, levels[place]);
            }
            for (int number = highest; number >= 1; number--) {
                turnRows(from, to, number);
            }
        }

        private void turnRows(int from, int to, int number) {
            int first = from;
            for (int at = from; at <= to; at++) {
                if (at == to || levels[order[at]] < number) {
                    turn(first, at - 1);
                    first = at + 1;
                }
            }
        }

        private void turn(int first, int last) {
            int half = (last - first + 1) / 2;
            for (int i = 0; i < half; i++) {
                int kept = order[first + i];
                order[first + i] = order[last - i];
                order[last - i] = kept;
            }
        }
    }
}
