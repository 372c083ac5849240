/** Puts texts on the tape of a DoubleTurns, padded with bytes 0 to whole calls of feed. */
final class Texts {
    private Texts() {
    }

    static int feed(DoubleTurns x, String text) {
        int[] numbers = new int[(text.length() + 19) / 20 * 5];
        for (int i = 0; i < text.length(); i++) {
            numbers[i / 4] |= (text.charAt(i) & 255) << (24 - i % 4 * 8);
        }
        int count = 0;
        for (int i = 0; i < numbers.length; i += 5) {
            count = x.feed(numbers[i], numbers[i + 1], numbers[i + 2], numbers[i + 3], numbers[i + 4]);
        }
        return count;
    }

    static int tell(DoubleTurns x, String text) {
        feed(x, text);
        return x.text(text.length());
    }

    static String of(int root, int[]... turns) {
        StringBuilder text = new StringBuilder("root ").append(root).append(';');
        for (int[] t : turns) {
            text.append(turn(t));
        }
        return text.toString();
    }

    static String turn(int[] t) {
        StringBuilder text = new StringBuilder("turn");
        for (int n : t) {
            text.append(' ').append(n);
        }
        return text.append(';').toString();
    }

    static int add(DoubleTurns x, int[] t) {
        return x.add(t[0], t[1], t[2], t[3], t[4], t[5], t[6], t[7]);
    }

    static int find(DoubleTurns x, int[] t) {
        return x.find(t[0], t[1], t[2], t[3], t[4], t[5], t[6], t[7]);
    }
}
