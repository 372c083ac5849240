import java.math.BigInteger;
import java.util.ArrayList;
import java.util.List;
import java.util.regex.Matcher;
import java.util.regex.Pattern;

/** Reads a text by its tokens, as the document tells it, for comparison. */
final class TextModel {
    private static final Pattern TOKEN = Pattern.compile(" *([a-z]+|[0-9]+|[^ ])", Pattern.DOTALL);
    final List<int[]> turns = new ArrayList<>();
    int d;
    int fault;
    int place = Model.NONE;
    Model model;
    private final String text;
    private final List<String> tokens = new ArrayList<>();
    private final List<Integer> starts = new ArrayList<>();
    private int next;

    TextModel(String text) {
        this.text = text;
        Matcher m = TOKEN.matcher(text);
        while (m.lookingAt()) {
            tokens.add(m.group(1));
            starts.add(m.start(1));
            m.region(m.end(), text.length());
        }
        read();
    }

    private void read() {
        if (!takes("root")) {
            return;
        }
        BigInteger root = number(false);
        if (root == null) {
            return;
        }
        if (!List.of(2, 3, 5).contains(root.min(BigInteger.valueOf(99)).intValue())) {
            fail(2, next - 1);
            return;
        }
        d = root.intValue();
        if (!takes(";")) {
            return;
        }
        model = new Model(d, turns);
        while (next < tokens.size()) {
            if (!readTurn()) {
                return;
            }
        }
    }

    private boolean readTurn() {
        int word = next;
        if (!takes("turn")) {
            return false;
        }
        if (turns.size() == 4) {
            return fail(3, word);
        }
        int[] turn = new int[8];
        for (int i = 0; i < 8; i++) {
            int start = next;
            boolean minus = next < tokens.size() && tokens.get(next).equals("-");
            if (minus) {
                next++;
            }
            BigInteger n = number(minus);
            if (n == null) {
                return false;
            }
            if (n.abs().compareTo(BigInteger.valueOf(4)) > 0) {
                return fail(2, start);
            }
            turn[i] = n.intValue();
        }
        if (!takes(";")) {
            return false;
        }
        if (!Model.isTurn(d, turn)) {
            return fail(4, word);
        }
        turns.add(turn);
        model = new Model(d, turns);
        return model.why[0] == 0 || fail(5, word);
    }

    private boolean takes(String token) {
        if (next >= tokens.size() || !tokens.get(next).equals(token)) {
            return fail(1, next);
        }
        next++;
        return true;
    }

    private BigInteger number(boolean minus) {
        if (next >= tokens.size() || !Character.isDigit(tokens.get(next).charAt(0))) {
            fail(1, next);
            return null;
        }
        BigInteger n = new BigInteger(tokens.get(next));
        next++;
        return minus ? n.negate() : n;
    }

    private boolean fail(int kind, int token) {
        fault = kind;
        place = token < starts.size() ? starts.get(token) : text.length();
        return false;
    }
}
