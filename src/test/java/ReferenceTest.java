import java.util.List;
import java.util.Random;

/** Runs of calls, the same ones each time, on the class and on the slow second reading. */
public final class ReferenceTest {
    private static final int RUNS = 1400;
    private static final int CALLS = 500;
    /** Kinds that are drawn, by the steps that a run is after. */
    private static final String[] ALPHABETS = {
        "L R AL EN ES ET AN CS NSM WS S ON LRE RLE LRO RLO PDF LRI RLI FSI PDI",
        "L R AL EN EN ES ET ET AN CS CS NSM WS",
        "L R EN AN ON ON ON ON ON NSM WS LRI PDI",
        "L R ON WS NSM LRI RLI FSI FSI PDI PDI PDI",
        "L R EN WS LRE RLE LRO RLO PDF PDF PDF LRI RLI PDI",
        "LRE RLE LRO RLO RLE LRI FSI PDI PDF L R ON",
        "L L R NSM WS WS S ON",
    };

    private final Check check = new Check();
    private final Random random = new Random(20261115);
    private TwoWayLines x;
    private Reference y;
    private String[] alphabet;
    private StringBuilder run;

    private ReferenceTest() {
    }

    public static void main(String[] args) {
        ReferenceTest test = new ReferenceTest();
        for (int i = 0; i < RUNS && !test.check.failed(); i++) {
            test.alphabet = ALPHABETS[i % ALPHABETS.length].split(" ");
            test.oneRun();
        }
        test.check.end();
    }

    private void oneRun() {
        x = new TwoWayLines();
        y = new Reference();
        run = new StringBuilder();
        int most = random.nextInt(4) == 0 ? 70 : random.nextInt(20);
        for (int calls = 0; calls < CALLS && !check.failed(); calls++) {
            if (random.nextInt(100) < 3) {
                askAll();
                calls += 100;
            } else if (y.length() < most || random.nextInt(3) > 0) {
                change(most);
            } else {
                askOne();
            }
        }
        askAll();
    }

    private void due(String what, Object got, Object want) {
        if (!got.equals(want)) {
            System.out.println("after" + run);
        }
        check.due(what, got, want);
    }

    private void change(int most) {
        int dice = random.nextInt(100);
        if (dice < 3) {
            int b = random.nextInt(5) - 1;
            run.append(" base(").append(b).append(")");
            due("base", x.base(b), y.base(b));
        } else if (dice < 6) {
            int m = random.nextInt(10) == 0 ? random.nextInt(104) - 1 : random.nextInt(14);
            run.append(" measure(").append(m).append(")");
            due("measure", x.measure(m), y.measure(m));
        } else if (dice < 7) {
            run.append(" clear()");
            x.clear();
            y.clear();
        } else if (dice < 12 || y.length() > most) {
            run.append(" drop()");
            due("drop", x.drop(), y.drop());
        } else {
            addOne();
        }
    }

    private void addOne() {
        int kind = Text.KINDS.indexOf(alphabet[random.nextInt(alphabet.length)]);
        int group = random.nextInt(7);
        int width = random.nextInt(4);
        int pair = random.nextInt(7) - 3;
        if (random.nextInt(60) == 0) {
            kind = random.nextInt(24) - 1;
            group = random.nextInt(10) - 1;
            width = random.nextInt(7) - 1;
            pair = random.nextInt(11) - 5;
        }
        run.append(" add(").append(kind).append(", ").append(group).append(", ").append(width)
                .append(", ").append(pair).append(")");
        due("add", x.add(kind, group, width, pair), y.add(kind, group, width, pair));
    }

    private void askOne() {
        int place = random.nextInt(y.length() + 4) - 2;
        switch (random.nextInt(7)) {
            case 0 -> due("length", x.length(), y.length());
            case 1 -> due("lines", x.lines(), y.lines());
            case 2 -> due("start " + place, x.start(place), y.start(place));
            case 3 -> due("match " + place, x.match(place), y.match(place));
            case 4 -> due("shownLevel " + place, x.shownLevel(place), y.shownLevel(place));
            case 5 -> due("partner " + place, x.partner(place), y.partner(place));
            default -> due("type " + place, x.type(place), y.type(place));
        }
    }

    private void askAll() {
        due("length", x.length(), y.length());
        due("paragraphLevel", x.paragraphLevel(), y.paragraphLevel());
        for (int place = -1; place <= y.length(); place++) {
            due("match " + place, x.match(place), y.match(place));
            due("partner " + place, x.partner(place), y.partner(place));
            due("type " + place, x.type(place), y.type(place));
            due("level " + place, x.level(place), y.level(place));
            due("mayBreak " + place, x.mayBreak(place), y.mayBreak(place));
            due("shownLevel " + place, x.shownLevel(place), y.shownLevel(place));
            due("mirrored " + place, x.mirrored(place), y.mirrored(place));
        }
        due("lines", x.lines(), y.lines());
        for (int line = -1; line <= y.lines() + 1; line++) {
            due("start " + line, x.start(line), y.start(line));
            due("extent " + line, x.extent(line), y.extent(line));
            List<Integer> order = y.order(line);
            for (int k = -1; k <= order.size(); k++) {
                due("shown " + line + ", " + k, x.shown(line, k),
                        k >= 0 && k < order.size() ? order.get(k) : TwoWayLines.NONE);
            }
        }
    }
}
