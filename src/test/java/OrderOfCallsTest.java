import java.util.ArrayList;
import java.util.LinkedHashMap;
import java.util.List;
import java.util.Map;
import java.util.Random;
import java.util.function.Predicate;

/**
 * All that is told is of the paragraph, base and measure as they are then, whatever was called
 * before: an object with a past answers as a new one with the same paragraph, base and measure.
 */
public final class OrderOfCallsTest {
    private static final int NONE = TwoWayLines.NONE;
    private static final int FULL = 64;
    private static final int MOST_CALLS = 512;
    private static final Check CHECK = new Check();
    private static final Map<String, Question> QUESTIONS = questions();
    private static final Map<String, Predicate<Both>> CHANGES = changes();
    private static final Map<String, Predicate<TwoWayLines>> REFUSED = refused();
    /** They differ from one another in length, lines, levels, matches, brackets and breaks. */
    private static final String[] PARAGRAPHS = {
        "R/FREE ( L/FREE:3 ) LRI EN/FREE NSM PDI WS/BLANK RLE AN/FREE:3 PDF S/FREE L/FREE:3",
        "L [ R ] NSM FSI AL/FREE:2 EN CS EN PDI ET EN/HYPHEN:3 WS/BLANK:3 R/WORD:3 L/FREE:3",
        "RLO L/FREE:3 ( PDF ) LRO R/FREE:3 RLI PDI WS/BLANK PDI LRI",
        "NSM/FREE:3 NSM:3 L/OPENING WS/BLANK R/CLOSING:3 EN/GLUE:3 { AN }",
        "L",
    };

    /** Any of the calls that tell; those that take no number do not look at it. */
    private interface Question {
        int ask(TwoWayLines x, int number);
    }

    /** An object with a past, and what its paragraph, base and measure are due to be. */
    private static final class Both {
        final TwoWayLines x = new TwoWayLines();
        final List<int[]> characters = new ArrayList<>();
        int base = 2;
        int measure = 10;
        int calls = 0;

        boolean add(int kind, int group, int width, int pair) {
            boolean due = characters.size() < FULL;
            if (due) {
                characters.add(new int[] {kind, group, width, pair});
            }
            calls++;
            return x.add(kind, group, width, pair) == due;
        }

        boolean drop() {
            boolean due = !characters.isEmpty();
            if (due) {
                characters.remove(characters.size() - 1);
            }
            calls++;
            return x.drop() == due;
        }

        boolean clear() {
            characters.clear();
            calls++;
            x.clear();
            return true;
        }

        boolean base(int b) {
            base = b;
            calls++;
            return x.base(b);
        }

        boolean measure(int m) {
            measure = m;
            calls++;
            return x.measure(m);
        }

        void refuse(String call, Predicate<TwoWayLines> make) {
            calls++;
            CHECK.due(call, make.test(x), false);
        }

        TwoWayLines anew() {
            TwoWayLines y = new TwoWayLines();
            y.base(base);
            y.measure(measure);
            for (int[] one : characters) {
                y.add(one[0], one[1], one[2], one[3]);
            }
            return y;
        }

        void put(String text) {
            for (int[] one : Text.characters(text)) {
                CHECK.due("add", add(one[0], one[1], one[2], one[3]), true);
            }
        }

        String ask(Question question) {
            calls += characters.size() + 4;
            return answers(x, question, characters.size());
        }

        void hold(String what, Question question) {
            CHECK.due(what, ask(question), answers(anew(), question, characters.size()));
            CHECK.due(what + ": at most 512 calls", calls <= MOST_CALLS, true);
        }
    }

    private OrderOfCallsTest() {
    }

    public static void main(String[] args) {
        everyQuestionFirstBehindEveryChange();
        everyQuestionTwice();
        refusedCallsBetween();
        filledEmptiedAndFilledAgain();
        fullEmptiedAndFullAgain();
        changesAndQuestionsMixed();
        CHECK.end();
    }

    private static int asNumber(boolean answer) {
        return answer ? 1 : 0;
    }

    private static Map<String, Question> questions() {
        Map<String, Question> all = new LinkedHashMap<>();
        all.put("length", (x, number) -> x.length());
        all.put("paragraphLevel", (x, number) -> x.paragraphLevel());
        all.put("match", TwoWayLines::match);
        all.put("partner", TwoWayLines::partner);
        all.put("type", TwoWayLines::type);
        all.put("level", TwoWayLines::level);
        all.put("mayBreak", (x, number) -> asNumber(x.mayBreak(number)));
        all.put("lines", (x, number) -> x.lines());
        all.put("start", TwoWayLines::start);
        all.put("extent", TwoWayLines::extent);
        all.put("shownLevel", TwoWayLines::shownLevel);
        all.put("shown of line 0", (x, number) -> x.shown(0, number));
        all.put("shown of line 1", (x, number) -> x.shown(1, number));
        all.put("number 0 shown", (x, number) -> x.shown(number, 0));
        all.put("mirrored", (x, number) -> asNumber(x.mirrored(number)));
        return all;
    }

    private static Map<String, Predicate<Both>> changes() {
        Map<String, Predicate<Both>> all = new LinkedHashMap<>();
        for (int kind = 0; kind < Text.KINDS.size(); kind++) {
            int its = kind;
            all.put("add of " + Text.KINDS.get(kind), both -> both.add(its, its % 7, 3, 0));
        }
        all.put("add of a bracket", both -> both.add(11, 5, 1, -1));
        all.put("drop", Both::drop);
        all.put("clear", Both::clear);
        for (int b = 0; b <= 2; b++) {
            int its = b;
            all.put("base " + b, both -> both.base(its));
        }
        for (int m : new int[] {1, 2, 5, 7, 100}) {
            all.put("measure " + m, both -> both.measure(m));
        }
        return all;
    }

    private static Map<String, Predicate<TwoWayLines>> refused() {
        Map<String, Predicate<TwoWayLines>> all = new LinkedHashMap<>();
        all.put("add, wrong kind", x -> x.add(21, 0, 1, 0));
        all.put("add, wrong kind below", x -> x.add(-1, 0, 1, 0));
        all.put("add, wrong group", x -> x.add(0, 7, 1, 0));
        all.put("add, wrong width", x -> x.add(1, 0, 4, 0));
        all.put("add, wrong pair", x -> x.add(11, 0, 1, 4));
        all.put("base 3", x -> x.base(3));
        all.put("base -1", x -> x.base(NONE));
        all.put("measure 0", x -> x.measure(0));
        all.put("measure 101", x -> x.measure(101));
        return all;
    }

    private static String answers(TwoWayLines x, Question question, int length) {
        StringBuilder all = new StringBuilder();
        for (int number = -1; number <= length + 2; number++) {
            all.append(' ').append(question.ask(x, number));
        }
        return all.toString();
    }

    private static Both with(String text) {
        Both both = new Both();
        both.put(text);
        return both;
    }

    private static void everyQuestionFirstBehindEveryChange() {
        CHECK.sentence("every question first behind every change");
        for (String text : PARAGRAPHS) {
            CHANGES.forEach((change, make) -> QUESTIONS.forEach((name, question) -> {
                Both both = with(text);
                both.hold(name, question);
                CHECK.due(change, make.test(both), true);
                both.hold(name + " behind " + change + ", " + text, question);
            }));
        }
    }

    private static void everyQuestionTwice() {
        CHECK.sentence("a question asked twice, and with any other between");
        for (String text : PARAGRAPHS) {
            QUESTIONS.forEach((name, question) -> QUESTIONS.forEach((other, between) -> {
                Both both = with(text);
                String first = both.ask(question);
                CHECK.due(name + " again, " + text, both.ask(question), first);
                both.ask(between);
                CHECK.due(name + " behind " + other + ", " + text, both.ask(question), first);
                both.hold(name + ", " + text, question);
            }));
        }
    }

    private static void refusedCallsBetween() {
        CHECK.sentence("a refused call between change and question, and between two questions");
        for (String text : PARAGRAPHS) {
            REFUSED.forEach((call, make) -> QUESTIONS.forEach((name, question) -> {
                Both both = with(text);
                both.refuse(call, make);
                both.hold(name + " behind " + call + ", " + text, question);
                both.base(1);
                both.refuse(call, make);
                both.hold(name + " behind a change and " + call + ", " + text, question);
                both.refuse(call, make);
                both.hold(name + " again behind " + call + ", " + text, question);
            }));
        }
        QUESTIONS.forEach((name, question) -> {
            Both both = new Both();
            CHECK.due("drop of an empty one", both.drop(), true);
            both.hold(name + " behind drop", question);
            fill(both, 0);
            both.hold(name + " of a full one", question);
            CHECK.due("add to a full one", both.add(1, 5, 3, 0), true);
            both.hold(name + " behind add to a full one", question);
        });
    }

    private static void filledEmptiedAndFilledAgain() {
        CHECK.sentence("a paragraph filled, emptied and filled again");
        for (String first : PARAGRAPHS) {
            for (String second : PARAGRAPHS) {
                QUESTIONS.forEach((name, question) -> {
                    Both cleared = with(first);
                    cleared.hold(name, question);
                    cleared.clear();
                    cleared.put(second);
                    cleared.hold(name + " of " + second + " behind " + first, question);
                    Both dropped = with(first);
                    dropped.measure(3);
                    dropped.hold(name, question);
                    for (int i = dropped.characters.size(); i > 0; i--) {
                        dropped.drop();
                    }
                    dropped.hold(name + " of nothing behind " + first, question);
                    dropped.put(second);
                    dropped.hold(name + " of " + second + " behind dropped " + first, question);
                });
            }
        }
    }

    private static void fill(Both both, int from) {
        for (int i = both.characters.size(); i < FULL; i++) {
            int number = i * 5 + from;
            both.add(number % 21, number % 7, number % 4, number % 7 - 3);
        }
    }

    private static void fullEmptiedAndFullAgain() {
        CHECK.sentence("a full paragraph emptied and filled again");
        for (int from = 0; from < 21; from++) {
            int its = from;
            QUESTIONS.forEach((name, question) -> {
                Both both = new Both();
                fill(both, its);
                both.hold(name + " of the first", question);
                both.clear();
                both.hold(name + " of nothing", question);
                fill(both, its + 8);
                both.hold(name + " of the second", question);
                both.drop();
                both.hold(name + " of one less", question);
            });
        }
    }

    private static void changesAndQuestionsMixed() {
        CHECK.sentence("changes and questions mixed");
        Random random = new Random(8);
        List<String> changes = List.copyOf(CHANGES.keySet());
        List<String> questions = List.copyOf(QUESTIONS.keySet());
        for (int run = 0; run < 400 && !CHECK.failed(); run++) {
            Both both = with(PARAGRAPHS[run % PARAGRAPHS.length]);
            for (int i = 0; i < 240; i++) {
                String change = changes.get(random.nextInt(changes.size()));
                if (!change.equals("clear") || random.nextInt(4) == 0) {
                    CHECK.due(change, CHANGES.get(change).test(both), true);
                }
                String name = questions.get(random.nextInt(questions.size()));
                int number = random.nextInt(both.characters.size() + 2) - 1;
                both.calls++;
                CHECK.due("run " + run + ", " + name + " " + number + " behind " + change,
                        QUESTIONS.get(name).ask(both.x, number),
                        QUESTIONS.get(name).ask(both.anew(), number));
            }
            CHECK.due("at most 512 calls", both.calls <= MOST_CALLS, true);
        }
    }
}
