import java.text.Bidi;
import java.util.Random;

/**
 * The shown levels of one line beside those of java.text.Bidi, a reading of the same steps that is
 * not ours. It differs from the document, or does not tell, in these, which are left out here:
 * paragraphs with more than two marks that open a level (its deepest level is another one), marks
 * right behind brackets, brackets in overrides, the levels of hidden characters, and texts that it
 * takes to have one direction only.
 */
public final class LibraryTest {
    private static final int PARAGRAPHS = 60_000;
    private static final int MOST_OPEN = 2;
    private static final int L = 0;
    private static final int NSM = 8;
    private static final int ON = 11;
    private static final String CHARACTERS = "a\u05D0\u06271+$\u0660,\u0300 \t!"
            + "\u202A\u202B\u202D\u202E\u202C\u2066\u2067\u2068\u2069";
    private static final String[] ALPHABETS = {
        "L R AL EN ES ET AN CS NSM WS S ON ON ON ON LRE RLE PDF LRI RLI FSI PDI",
        "L R EN AN NSM WS ON ON ON ON ON LRI RLI FSI PDI PDI",
        "L R AL EN ES ET AN CS NSM WS",
        "L R EN NSM WS LRE RLE LRO RLO PDF PDF PDF LRI RLI PDI PDI",
        "L R WS S ON LRI RLI FSI PDI PDI RLE PDF",
    };

    private final Check check = new Check();
    private final Random random = new Random(20261115);
    private TwoWayLines x;
    private StringBuilder text;
    private StringBuilder told;

    private LibraryTest() {
    }

    public static void main(String[] args) {
        LibraryTest test = new LibraryTest();
        for (int i = 0; i < PARAGRAPHS && !test.check.failed(); i++) {
            test.oneParagraph(i % 3, ALPHABETS[i % ALPHABETS.length]);
        }
        test.check.end();
    }

    private void oneParagraph(int base, String alphabet) {
        write(base, alphabet.split(" "), !alphabet.contains("RLO"));
        int direction = base == 2 ? Bidi.DIRECTION_DEFAULT_LEFT_TO_RIGHT : base;
        Bidi bidi = new Bidi(text.toString(), direction);
        if (!bidi.isMixed()) {
            return;
        }
        check.due("level of" + told, x.paragraphLevel(), bidi.getBaseLevel());
        for (int place = 0; place < x.length(); place++) {
            if (x.type(place) != TwoWayLines.NONE) {
                check.due("base " + base + ": shownLevel(" + place + ") of" + told,
                        x.shownLevel(place), bidi.getLevelAt(place));
            }
        }
    }

    private void write(int base, String[] alphabet, boolean brackets) {
        x = new TwoWayLines();
        x.base(base);
        x.measure(100);
        text = new StringBuilder();
        told = new StringBuilder();
        int open = 0;
        boolean behindBracket = false;
        for (int many = 1 + random.nextInt(24); many > 0; many--) {
            int kind = Text.KINDS.indexOf(alphabet[random.nextInt(alphabet.length)]);
            boolean opens = kind >= 12 && kind <= 15 || kind >= 17 && kind <= 19;
            if (opens && open == MOST_OPEN || kind == NSM && behindBracket) {
                kind = L;
            } else if (opens) {
                open++;
            }
            int pair = brackets && kind == ON ? random.nextInt(7) - 3 : 0;
            if (kind < 12 || kind > 16) {
                behindBracket = pair != 0;
            }
            write(kind, pair);
        }
    }

    private void write(int kind, int pair) {
        x.add(kind, 0, 1, pair);
        text.append(pair == 0 ? CHARACTERS.charAt(kind) : "}])!([{".charAt(pair + 3));
        told.append(' ').append(Text.KINDS.get(kind)).append(pair == 0 ? "" : "(" + pair + ")");
    }
}
