import java.util.ArrayList;
import java.util.Collections;
import java.util.List;
import java.util.Set;

/**
 * A slow second reading of the document, sentence by sentence, for ReferenceTest to compare with.
 * It shares no code and no shortcut with the class: every question is worked out from nothing.
 */
final class Reference {
    private static final int NONE = -1;
    private static final Set<String> HIDDEN = Set.of("LRE", "RLE", "LRO", "RLO", "PDF");
    private static final Set<String> OPENERS = Set.of("LRI", "RLI", "FSI");
    private static final Set<String> ISOLATES = Set.of("LRI", "RLI", "FSI", "PDI");
    private static final Set<String> NEUTRAL =
            Set.of("ON", "WS", "S", "LRI", "RLI", "FSI", "PDI");

    private record Character(String kind, String group, int width, int pair) {
    }

    private record Entry(int level, String override, boolean isolate) {
    }

    /** What the explicit marks and the sequences' steps say of every place. */
    private static final class Findings {
        final List<Integer> levels = new ArrayList<>();
        final List<String> types = new ArrayList<>();
        final List<Integer> partners = new ArrayList<>();
    }

    private final List<Character> text = new ArrayList<>();
    private int base = 2;
    private int measure = 10;

    boolean add(int kind, int group, int width, int pair) {
        if (text.size() == 64 || kind < 0 || kind > 20 || group < 0 || group > 6 || width < 0
                || width > 3 || pair < -3 || pair > 3) {
            return false;
        }
        String name = Text.KINDS.get(kind);
        boolean weightless = HIDDEN.contains(name) || ISOLATES.contains(name);
        text.add(new Character(name, Text.GROUPS.get(group), weightless ? 0 : width,
                name.equals("ON") ? pair : 0));
        return true;
    }

    boolean drop() {
        if (text.isEmpty()) {
            return false;
        }
        text.remove(text.size() - 1);
        return true;
    }

    void clear() {
        text.clear();
    }

    boolean base(int b) {
        if (!Set.of(0, 1, 2).contains(b)) {
            return false;
        }
        base = b;
        return true;
    }

    boolean measure(int m) {
        if (m < 1 || m > 100) {
            return false;
        }
        measure = m;
        return true;
    }

    int length() {
        return text.size();
    }

    private String kind(int place) {
        return text.get(place).kind();
    }

    private boolean there(int place) {
        return place >= 0 && place < text.size();
    }

    // MATCH, DIRECTION, PARAGRAPH LEVEL

    private int matchOfOpener(int i) {
        for (int j = i + 1; j < text.size(); j++) {
            if (!kind(j).equals("PDI")) {
                continue;
            }
            int openers = 0;
            int closers = 0;
            for (int between = i + 1; between < j; between++) {
                openers += OPENERS.contains(kind(between)) ? 1 : 0;
                closers += kind(between).equals("PDI") ? 1 : 0;
            }
            if (openers == closers) {
                return j;
            }
        }
        return NONE;
    }

    int match(int place) {
        if (!there(place)) {
            return NONE;
        }
        if (OPENERS.contains(kind(place))) {
            return matchOfOpener(place);
        }
        if (kind(place).equals("PDI")) {
            for (int i = 0; i < place; i++) {
                if (OPENERS.contains(kind(i)) && matchOfOpener(i) == place) {
                    return i;
                }
            }
        }
        return NONE;
    }

    private int direction(int from, int to) {
        if (from >= to) {
            return 0;
        }
        switch (kind(from)) {
            case "L":
                return 0;
            case "R":
            case "AL":
                return 1;
            case "LRI":
            case "RLI":
            case "FSI":
                return match(from) == NONE ? 0 : direction(match(from) + 1, to);
            default:
                return direction(from + 1, to);
        }
    }

    int paragraphLevel() {
        return base == 2 ? direction(0, text.size()) : base;
    }

    // EXPLICIT LEVELS

    private static int next(int level, int parity) {
        int next = level + 1;
        while (next % 2 != parity) {
            next++;
        }
        return next;
    }

    private Findings explicit() {
        Findings found = new Findings();
        List<Entry> stack = new ArrayList<>();
        stack.add(new Entry(paragraphLevel(), null, false));
        int lostIsolates = 0;
        int lostEmbeddings = 0;
        int openIsolates = 0;
        for (int place = 0; place < text.size(); place++) {
            String kind = kind(place);
            Entry last = stack.get(stack.size() - 1);
            found.levels.add(NONE);
            found.types.add(null);
            found.partners.add(NONE);
            if (Set.of("LRE", "RLE", "LRO", "RLO").contains(kind)) {
                int next = next(last.level(), kind.startsWith("R") ? 1 : 0);
                String override = kind.endsWith("O") ? kind.substring(0, 1) : null;
                if (next <= 5 && lostIsolates == 0 && lostEmbeddings == 0) {
                    stack.add(new Entry(next, override, false));
                } else if (lostIsolates == 0) {
                    lostEmbeddings++;
                }
                continue;
            }
            if (kind.equals("PDF")) {
                if (lostIsolates == 0) {
                    if (lostEmbeddings > 0) {
                        lostEmbeddings--;
                    } else if (stack.size() >= 2 && !last.isolate()) {
                        stack.remove(stack.size() - 1);
                    }
                }
                continue;
            }
            if (kind.equals("PDI")) {
                if (lostIsolates > 0) {
                    lostIsolates--;
                } else if (openIsolates > 0) {
                    lostEmbeddings = 0;
                    boolean isolate = false;
                    while (!isolate) {
                        isolate = stack.remove(stack.size() - 1).isolate();
                    }
                    openIsolates--;
                }
                last = stack.get(stack.size() - 1);
            }
            found.levels.set(place, last.level());
            found.types.set(place, last.override() == null ? kind : last.override());
            if (OPENERS.contains(kind)) {
                boolean right = kind.equals("RLI");
                if (kind.equals("FSI")) {
                    int to = match(place) == NONE ? text.size() : match(place);
                    right = direction(place + 1, to) == 1;
                }
                int next = next(last.level(), right ? 1 : 0);
                if (next <= 5 && lostIsolates == 0 && lostEmbeddings == 0) {
                    openIsolates++;
                    stack.add(new Entry(next, null, true));
                } else {
                    lostIsolates++;
                }
            }
        }
        return found;
    }

    // SEQUENCES

    private List<List<Integer>> runs(Findings found, List<Integer> seen) {
        List<List<Integer>> runs = new ArrayList<>();
        int level = NONE;
        for (int place : seen) {
            if (found.levels.get(place) != level) {
                runs.add(new ArrayList<>());
                level = found.levels.get(place);
            }
            runs.get(runs.size() - 1).add(place);
        }
        return runs;
    }

    private List<List<Integer>> sequences(List<List<Integer>> runs) {
        List<List<Integer>> sequences = new ArrayList<>();
        for (List<Integer> run : runs) {
            int first = run.get(0);
            if (kind(first).equals("PDI") && match(first) != NONE) {
                continue;
            }
            List<Integer> sequence = new ArrayList<>(run);
            boolean goesOn = true;
            while (goesOn) {
                int last = sequence.get(sequence.size() - 1);
                goesOn = OPENERS.contains(kind(last)) && match(last) != NONE;
                if (goesOn) {
                    for (List<Integer> other : runs) {
                        if (other.contains(match(last))) {
                            sequence.addAll(other);
                        }
                    }
                }
            }
            sequences.add(sequence);
        }
        return sequences;
    }

    private Findings findings() {
        Findings found = explicit();
        List<Integer> seen = new ArrayList<>();
        for (int place = 0; place < text.size(); place++) {
            if (!HIDDEN.contains(kind(place))) {
                seen.add(place);
            }
        }
        for (List<Integer> sequence : sequences(runs(found, seen))) {
            int level = found.levels.get(sequence.get(0));
            int first = seen.indexOf(sequence.get(0));
            int last = seen.indexOf(sequence.get(sequence.size() - 1));
            int before = first == 0 ? paragraphLevel() : found.levels.get(seen.get(first - 1));
            int behind = paragraphLevel();
            boolean open = OPENERS.contains(kind(seen.get(last)))
                    && match(seen.get(last)) == NONE;
            if (last + 1 < seen.size() && !open) {
                behind = found.levels.get(seen.get(last + 1));
            }
            steps(found, sequence, side(level), side(Math.max(level, before)),
                    side(Math.max(level, behind)));
        }
        return found;
    }

    private static String side(int level) {
        return level % 2 == 1 ? "R" : "L";
    }

    private void steps(Findings found, List<Integer> sequence, String embedding,
            String beginning, String end) {
        List<String> types = new ArrayList<>();
        List<Boolean> marks = new ArrayList<>();
        for (int place : sequence) {
            types.add(found.types.get(place));
            marks.add(found.types.get(place).equals("NSM"));
        }
        int n = types.size();
        for (int i = 0; i < n; i++) {
            if (types.get(i).equals("NSM")) {
                String before = i == 0 ? beginning : types.get(i - 1);
                types.set(i, ISOLATES.contains(before) ? "ON" : before);
            }
        }
        for (int i = 0; i < n; i++) {
            if (types.get(i).equals("EN")
                    && "AL".equals(lastOf(types, i, Set.of("L", "R", "AL"), null))) {
                types.set(i, "AN");
            }
        }
        Collections.replaceAll(types, "AL", "R");
        weakFourToSeven(types, beginning);
        brackets(found, sequence, types, marks, embedding, beginning);
        neutrals(types, embedding, beginning, end);
        for (int i = 0; i < n; i++) {
            found.types.set(sequence.get(i), types.get(i));
        }
    }

    private static String lastOf(List<String> types, int before, Set<String> wanted,
            String otherwise) {
        String last = otherwise;
        for (int i = 0; i < before; i++) {
            if (wanted.contains(types.get(i))) {
                last = types.get(i);
            }
        }
        return last;
    }

    private static void weakFourToSeven(List<String> types, String beginning) {
        int n = types.size();
        List<String> old = List.copyOf(types);
        for (int i = 1; i + 1 < n; i++) {
            String sides = old.get(i - 1) + " " + old.get(i + 1);
            if (old.get(i).equals("ES") && sides.equals("EN EN")) {
                types.set(i, "EN");
            }
            if (old.get(i).equals("CS") && sides.equals("EN EN")) {
                types.set(i, "EN");
            }
            if (old.get(i).equals("CS") && sides.equals("AN AN")) {
                types.set(i, "AN");
            }
        }
        old = List.copyOf(types);
        for (int i = 0; i < n; i++) {
            int from = i;
            int to = i;
            while (from >= 0 && old.get(from).equals("ET")) {
                from--;
            }
            while (to < n && old.get(to).equals("ET")) {
                to++;
            }
            boolean number = from >= 0 && old.get(from).equals("EN")
                    || to < n && old.get(to).equals("EN");
            if (old.get(i).equals("ET") && number) {
                types.set(i, "EN");
            }
        }
        types.replaceAll(type -> Set.of("ES", "ET", "CS").contains(type) ? "ON" : type);
        old = List.copyOf(types);
        for (int i = 0; i < n; i++) {
            if (old.get(i).equals("EN")
                    && lastOf(old, i, Set.of("L", "R"), beginning).equals("L")) {
                types.set(i, "L");
            }
        }
    }

    private static List<String> withNumbersAsR(List<String> types) {
        List<String> strong = new ArrayList<>(types);
        strong.replaceAll(type -> type.equals("EN") || type.equals("AN") ? "R" : type);
        return strong;
    }

    private void brackets(Findings found, List<Integer> sequence, List<String> types,
            List<Boolean> marks, String embedding, String beginning) {
        List<Integer> list = new ArrayList<>();
        for (int i = 0; i < types.size(); i++) {
            int pair = text.get(sequence.get(i)).pair();
            if (pair == 0 || !types.get(i).equals("ON")) {
                continue;
            }
            if (pair > 0) {
                list.add(i);
                continue;
            }
            int at = list.size() - 1;
            while (at >= 0 && text.get(sequence.get(list.get(at))).pair() != -pair) {
                at--;
            }
            if (at >= 0) {
                found.partners.set(sequence.get(list.get(at)), sequence.get(i));
                found.partners.set(sequence.get(i), sequence.get(list.get(at)));
                list = new ArrayList<>(list.subList(0, at));
            }
        }
        String other = embedding.equals("L") ? "R" : "L";
        for (int i = 0; i < types.size(); i++) {
            int partner = found.partners.get(sequence.get(i));
            int j = sequence.indexOf(partner);
            if (partner == NONE || j < i) {
                continue;
            }
            List<String> strong = withNumbersAsR(types);
            List<String> between = strong.subList(i + 1, j);
            String type = null;
            if (between.contains(embedding)) {
                type = embedding;
            } else if (between.contains(other)) {
                String before = lastOf(strong, i, Set.of("L", "R"), beginning);
                type = before.equals(other) ? other : embedding;
            }
            if (type != null) {
                setBracket(types, marks, i, type);
                setBracket(types, marks, j, type);
            }
        }
    }

    private static void setBracket(List<String> types, List<Boolean> marks, int at, String type) {
        types.set(at, type);
        int i = at + 1;
        while (i < types.size() && marks.get(i)) {
            types.set(i, type);
            i++;
        }
    }

    private static void neutrals(List<String> types, String embedding, String beginning,
            String end) {
        List<String> old = withNumbersAsR(types);
        for (int i = 0; i < old.size(); i++) {
            if (!NEUTRAL.contains(old.get(i))) {
                continue;
            }
            int from = i;
            int to = i;
            while (from >= 0 && NEUTRAL.contains(old.get(from))) {
                from--;
            }
            while (to < old.size() && NEUTRAL.contains(old.get(to))) {
                to++;
            }
            String before = from < 0 ? beginning : old.get(from);
            String behind = to == old.size() ? end : old.get(to);
            types.set(i, before.equals(behind) ? before : embedding);
        }
    }

    int partner(int place) {
        return there(place) ? findings().partners.get(place) : NONE;
    }

    int type(int place) {
        if (!there(place) || HIDDEN.contains(kind(place))) {
            return NONE;
        }
        return Text.KINDS.indexOf(findings().types.get(place));
    }

    int level(int place) {
        if (!there(place)) {
            return NONE;
        }
        Findings found = findings();
        int at = place;
        while (at >= 0 && HIDDEN.contains(kind(at))) {
            at--;
        }
        if (at < 0) {
            return paragraphLevel();
        }
        int level = found.levels.get(at);
        String type = found.types.get(at);
        if (level % 2 == 0) {
            return level + (type.equals("R") ? 1 : 0) + (type.endsWith("N") ? 2 : 0);
        }
        return level + (type.equals("L") || type.endsWith("N") ? 1 : 0);
    }

    // BREAKS and LINES

    private String group(int place) {
        int at = place;
        while (at >= 0 && kind(at).equals("NSM")) {
            at--;
        }
        return at < 0 ? "WORD" : text.get(at).group();
    }

    boolean mayBreak(int place) {
        if (place < 1 || place > text.size() - 1) {
            return false;
        }
        String q = group(place);
        String p = group(place - 1);
        int at = place - 1;
        while (at >= 0 && group(at).equals("BLANK")) {
            at--;
        }
        String b = at < 0 ? "none" : group(at);
        if (kind(place).equals("NSM")) {
            return false;
        }
        if (q.equals("BLANK") || q.equals("CLOSING")) {
            return false;
        }
        if (b.equals("OPENING")) {
            return false;
        }
        if (p.equals("BLANK")) {
            return true;
        }
        if (p.equals("GLUE") || q.equals("GLUE")) {
            return false;
        }
        if (q.equals("HYPHEN")) {
            return false;
        }
        return p.equals("HYPHEN") || p.equals("FREE") || q.equals("FREE");
    }

    private int extentOf(int from, int to) {
        int end = to;
        while (end > from && group(end - 1).equals("BLANK")) {
            end--;
        }
        int sum = 0;
        for (int place = from; place < end; place++) {
            sum += text.get(place).width();
        }
        return sum;
    }

    private int lineEnd(int s) {
        int n = text.size();
        for (int e = n; e > s; e--) {
            if ((e == n || mayBreak(e)) && extentOf(s, e) <= measure) {
                return e;
            }
        }
        for (int e = n; e > s; e--) {
            if ((e == n || !kind(e).equals("NSM")) && extentOf(s, e) <= measure) {
                return e;
            }
        }
        int e = s + 1;
        while (e < n && kind(e).equals("NSM")) {
            e++;
        }
        return e;
    }

    private List<Integer> starts() {
        List<Integer> starts = new ArrayList<>();
        int s = 0;
        while (s < text.size()) {
            starts.add(s);
            s = lineEnd(s);
        }
        starts.add(text.size());
        return starts;
    }

    int lines() {
        return starts().size() - 1;
    }

    int start(int line) {
        List<Integer> starts = starts();
        return line >= 0 && line < starts.size() ? starts.get(line) : NONE;
    }

    int extent(int line) {
        List<Integer> starts = starts();
        if (line < 0 || line >= starts.size() - 1) {
            return NONE;
        }
        return extentOf(starts.get(line), starts.get(line + 1));
    }

    // SHOWN LEVELS and ORDER

    int shownLevel(int place) {
        if (!there(place)) {
            return NONE;
        }
        List<Integer> starts = starts();
        int end = text.size();
        for (int start : starts) {
            if (start > place) {
                end = start;
                break;
            }
        }
        if (kind(place).equals("S")) {
            return paragraphLevel();
        }
        int at = place;
        while (at < end && (kind(at).equals("WS") || ISOLATES.contains(kind(at))
                || HIDDEN.contains(kind(at)))) {
            at++;
        }
        boolean row = at > place;
        boolean reset = row && (at == end || kind(at).equals("S"));
        return reset ? paragraphLevel() : level(place);
    }

    List<Integer> order(int line) {
        List<Integer> order = new ArrayList<>();
        List<Integer> starts = starts();
        if (line < 0 || line >= starts.size() - 1) {
            return order;
        }
        int[] levels = new int[text.size()];
        int highest = 0;
        for (int place = starts.get(line); place < starts.get(line + 1); place++) {
            order.add(place);
            levels[place] = shownLevel(place);
            highest = Math.max(highest, levels[place]);
        }
        for (int number = highest; number >= 1; number--) {
            int at = 0;
            while (at < order.size()) {
                int to = at;
                while (to < order.size() && levels[order.get(to)] >= number) {
                    to++;
                }
                Collections.reverse(order.subList(at, to));
                at = Math.max(to, at + 1);
            }
        }
        return order;
    }

    boolean mirrored(int place) {
        return there(place) && text.get(place).pair() != 0 && shownLevel(place) % 2 == 1;
    }
}
