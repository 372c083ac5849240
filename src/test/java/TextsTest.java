import java.util.ArrayList;
import java.util.List;
import java.util.Random;

/** Texts, right and wrong in each place, against a reader by tokens. */
public final class TextsTest {
    private static final String[] PIECES = {" ", "  ", ";", "-", "0", "1", "2", "3", "4", "5", "9", "12", "00", "turn",
        "root", "tur", "turns", "Root", "x", "a", "z", "`", "{", "/", ":", "\u0000", "\u00e9", "\t", "99999999999999999999", "- 4", "-5", "turn 4 0 0 0 0 0 0 0;"};

    public static void main(String[] args) {
        Random random = new Random(4711);
        List<String> rights = new ArrayList<>();
        for (int i = 0; i < 60; i++) {
            rights.add(right(random));
        }
        for (int i = 0; i < 8000; i++) {
            StringBuilder text = new StringBuilder(rights.get(random.nextInt(rights.size())));
            for (int changes = random.nextInt(4); changes > 0; changes--) {
                change(text, random);
            }
            if (text.length() > 400) {
                text.setLength(400);
            }
            compare(text.toString());
        }
        for (int n = 0; n <= 60; n++) {
            compare("root 5 ; turn 2 0 2 0 2 0 2 0 ; turn -1 1 2 0 1 1 0 0 ;   ".substring(0, Math.min(n, 58)));
        }
        Check.end("TextsTest");
    }

    private static String right(Random random) {
        int root = Turns.ROOTS[random.nextInt(3)];
        StringBuilder text = new StringBuilder("root ").append(root).append(';');
        List<int[]> turns = Turns.closing(root, random);
        for (int[] t : turns) {
            text.append(Texts.turn(t));
        }
        if (random.nextInt(4) == 0) {
            text.append(Texts.turn(Turns.any(root, random)));
        }
        return text.toString();
    }

    private static void change(StringBuilder text, Random random) {
        int place = random.nextInt(text.length() + 1);
        if (random.nextInt(3) == 0 && place < text.length()) {
            text.deleteCharAt(place);
        } else {
            text.insert(place, PIECES[random.nextInt(PIECES.length)]);
        }
        if (text.length() == 0) {
            text.append(' ');
        }
    }

    private static void compare(String text) {
        TextModel model = new TextModel(text);
        DoubleTurns x = new DoubleTurns();
        int answer = Texts.tell(x, text);
        Check.due("text '" + text + "'", answer, model.fault == 0 ? model.model.size() : model.fault - 10);
        Check.due("fault of '" + text + "'", x.fault(), model.place);
        Check.due("bytes behind '" + text + "'", x.told(15), 0);
        Check.due("root behind '" + text + "'", x.told(0), model.fault == 0 ? model.d : 2);
        Check.due("turns behind '" + text + "'", x.told(1), model.fault == 0 ? model.turns.size() : 0);
        for (int what = 0; what < 4; what++) {
            Check.due("why of '" + text + "'", x.why(what), model.fault == 5 ? model.model.why[what] : 0);
        }
    }
}
