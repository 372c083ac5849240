import java.util.function.IntUnaryOperator;

/**
 * Each sentence about texts and their faults by itself: its words stand in
 * says(), what looks at them behind that.
 */
public final class FaultsTest extends Samples {
    private static final int NONE = DoubleTurns.NONE;
    private static final String RIGHT = "turn 4 0 0 0 0 0 0 0;";
    private static final String OPEN_ONE = Texts.turn(OPEN);
    private static String words = "";

    public static void main(String[] args) {
        right();
        tooEarly();
        eachByte();
        roots();
        numbers();
        wrongWords();
        fifth();
        noTurn();
        notClosed();
        order();
        allStays();
        whole();
        Check.end("FaultsTest");
    }

    private static void says(String sentence) {
        words = "'" + sentence + "' ";
    }

    private static void tells(String text, int count) {
        DoubleTurns x = new DoubleTurns();
        Check.due(words + "text '" + text + "'", Texts.tell(x, text), count);
        Check.due(words + "fault of '" + text + "'", x.fault(), NONE);
    }

    private static void fails(String text, int fault, int place) {
        DoubleTurns x = new DoubleTurns();
        Check.due(words + "text '" + text + "'", Texts.tell(x, text), fault - 10);
        Check.due(words + "fault of '" + text + "'", x.fault(), place);
    }

    private static void right() {
        says("\"root\" D \";\" { \"turn\" Q Q Q Q Q Q Q Q \";\" }: no turn up to four");
        for (int turns = 0; turns <= 4; turns++) {
            tells("root 5;" + RIGHT.repeat(turns), 1);
        }
        says("blanks may stand ahead of all these and of signs, and at the end");
        tells("   root   3   ;   turn   -   2   0   2   0   -   2   0   2   0   ;   ", 3);
        says("blanks may stand: they need not, but between two numbers");
        tells("root3;turn-2 0 2-0-2 0 2 0;turn4 0 0 0 0 0 0 0;", 3);
        fails("root3;turn-20 2-0-2 0 2 0;", 2, 10);
        says("numbers: digits, as many as stand there");
        tells("root 00000000000000000000000000000000005;turn 0004 00 0 000 0 0 0 0;", 1);
        says("Q: [\"-\"] a number: a nought, too");
        tells("root 2;turn -4 -0 -0 -0 -0 -0 -0 -0;", 2);
    }

    private static void tooEarly() {
        says("1 (at the length, if the text ends too early)");
        String[] texts = {"", " ", "     ", "root", "root ", "root 2", "root 2 ", "root 2;turn", "root 2; turn ",
            "root 2;turn -", "root 2;turn - ", "root 2;turn 4", "root 2;turn 4 0 0 0 0 0 0", "root 2;turn 4 0 0 0 0 0 0 -",
            "root 2;turn 4 0 0 0 0 0 0 0", "root 2;turn 1 0 0 0 0 0 0 0 ", "root 2;" + RIGHT + "turn"};
        for (String text : texts) {
            fails(text, 1, text.length());
        }
        says("1 at its first byte: a word that ends too early");
        fails("r", 1, 0);
        fails(" roo", 1, 1);
        fails("root 2;t", 1, 7);
        fails("root 2; tur", 1, 8);
        says("where a text may end");
        tells("root 2;", 1);
        tells("root 2; ", 1);
        tells("root 2;" + RIGHT, 1);
        tells("root 2;" + RIGHT + "    ", 1);
    }

    /** Each of the 256 bytes at one place: due is 0 for those that fit, for others a thousand faults and the place. */
    private static void bytes(String before, String after, IntUnaryOperator due) {
        for (int b = 0; b < 256; b++) {
            String text = before + (char) b + after;
            int want = due.applyAsInt(b);
            DoubleTurns x = new DoubleTurns();
            int answer = Texts.tell(x, text);
            Check.due(words + "fault of '" + text + "'", x.fault(), want == 0 ? NONE : want % 1000);
            Check.due(words + "text '" + text + "'", Math.min(answer, 0), want == 0 ? 0 : want / 1000 - 10);
        }
    }

    private static boolean isDigit(int b) {
        return b >= 48 && b <= 57;
    }

    private static boolean isLetter(int b) {
        return b >= 97 && b <= 122;
    }

    private static void eachByte() {
        says("1 what can't stand there: blanks are 32 alone");
        bytes("root 2;", "", b -> b == 32 ? 0 : 1007);
        bytes("", "root 2;", b -> b == 32 ? 0 : 1000);
        says("1 what can't stand there: words are small letters, as many as stand there");
        bytes("root", " 7;", b -> b == 32 ? 2006 : isLetter(b) ? 1000
                : "235".indexOf(b) >= 0 ? 1006 : isDigit(b) ? 2004 : 1004);
        bytes("root 2;turn", " 7", b -> b == 32 ? 2013 : isLetter(b) ? 1007
                : "01234".indexOf(b) >= 0 ? 2013 : isDigit(b) || b == 45 ? 2011 : 1011);
        says("1 what can't stand there: numbers are digits, as many as stand there");
        bytes("root 5", ";", b -> b == 32 ? 0 : isDigit(b) ? 2005 : b == 59 ? 1007 : 1006);
        bytes("root 2;turn 4 ", "0 0 0 0 0 0 0;", b -> b == 32 || b == 48 || b == 45 ? 0 : isDigit(b) ? 2014 : 1014);
        says("2 at its \"-\", 1 what can't stand there: behind \"-\"");
        bytes("root 2;turn 4 -", "0 0 0 0 0 0 0;", b -> b == 32 || b == 48 ? 0 : isDigit(b) ? 2014 : 1015);
    }

    private static void roots() {
        says("2 a number that is none such: D is 2, 3 or 5");
        String[] wrong = {"0", "1", "4", "6", "7", "8", "9", "10", "20", "22", "25", "30", "35", "52", "258",
            "65538", "4294967298", "18446744073709551618", "340282366920938463463374607431768211458", "99999999999999999999999999999999992", "04"};
        for (String number : wrong) {
            fails("root " + number + ";", 2, 5);
            fails("root   " + number, 2, 7);
            fails("root" + number + "x", 2, 4);
        }
        for (String number : new String[] {"2", "3", "5", "02", "0003"}) {
            tells("root " + number + ";", 1);
        }
        says("1 what can't stand there: D has no \"-\"");
        fails("root -2;", 1, 5);
        fails("root - 2;", 1, 5);
    }

    private static void numbers() {
        says("2 a number that is none such: -4 to 4 (of Q at its \"-\", if it has one)");
        for (int place = 0; place < 8; place++) {
            String before = "root 2;turn" + " 0".repeat(place) + "  ";
            for (String number : new String[] {"5", "6", "9", "10", "44", "256", "4294967296", "18446744073709551620", "05"}) {
                fails(before + number, 2, before.length());
                fails(before + "-" + number, 2, before.length());
                fails(before + "-   " + number, 2, before.length());
            }
            for (String number : new String[] {"4", "-4", "- 4", "0", "-0", "3", "004"}) {
                fails(before + number, 1, (before + number).length());
            }
        }
        says("1 what can't stand there: \"-\" twice, \"+\", no number behind \"-\"");
        fails("root 2;turn --4", 1, 13);
        fails("root 2;turn - -4", 1, 14);
        fails("root 2;turn +4", 1, 12);
        fails("root 2;turn -;", 1, 13);
        fails("root 2;turn 4-;", 1, 14);
        fails("root 2;turn -turn", 1, 13);
        says("1 what can't stand there: seven numbers, nine numbers");
        fails("root 2;turn 4 0 0 0 0 0 0;", 1, 25);
        fails("root 2;turn 4 0 0 0 0 0 0 0 0;", 1, 28);
        fails("root 2;turn 4 0 0 0 0 0 0 0 -0;", 1, 28);
        fails("root 2;turn;", 1, 11);
    }

    private static void wrongWords() {
        says("1 what can't stand there: a word is what stands there, all of it");
        String[] roots = {"turn", "roots", "rootroot", "roo", "roat", "xoot", "rooo", "rrot", "toor", "r", "a", "zzzz"};
        for (String word : roots) {
            fails(word + " 2;", 1, 0);
            fails("  " + word + " 2;", 1, 2);
        }
        String[] turns = {"root", "turns", "turnturn", "tur", "turm", "burn", "tuun", "tern", "t", "a", "zzzz"};
        for (String word : turns) {
            fails("root 2;" + word + " 4 0 0 0 0 0 0 0;", 1, 7);
            fails("root 2; " + RIGHT + " " + word, 1, 8 + RIGHT.length() + 1);
        }
        fails("Root 2;", 1, 0);
        fails("rOot 2;", 1, 0);
        fails("rooT 2;", 1, 0);
        fails("root 2;Turn 4", 1, 7);
        says("1 what can't stand there: signs");
        fails("root 2", 1, 6);
        fails("root 2:", 1, 6);
        fails("root 2,", 1, 6);
        fails("root 2;;", 1, 7);
        fails("root ;", 1, 5);
        fails("root 2 3;", 1, 7);
        fails("root 2 turn", 1, 7);
        fails("root 2;4", 1, 7);
        fails(";", 1, 0);
        fails("2;", 1, 0);
    }

    private static void fifth() {
        says("3 a fifth turn (at its word)");
        String four = "root 2;" + RIGHT.repeat(4);
        tells(four, 1);
        fails(four + "turn", 3, four.length());
        fails(four + "  turn", 3, four.length() + 2);
        fails(four + "turn 9", 3, four.length());
        fails(four + RIGHT, 3, four.length());
        fails(four + OPEN_ONE, 3, four.length());
        fails(four + "turn;", 3, four.length());
        says("1 what can't stand there, where a fifth turn would be");
        fails(four + "turns", 1, four.length());
        fails(four + "tur", 1, four.length());
        fails(four + ";", 1, four.length());
        fails(four + " 4", 1, four.length() + 1);
    }

    private static void noTurn() {
        says("4 one that is no TURN (at its word, behind its \";\")");
        fails("root 2;turn 0 0 0 0 0 0 0 0;", 4, 7);
        fails("root 2; turn 4 0 0 0 0 0 0 1 ;", 4, 8);
        fails("root 2;turn 0 4 0 0 0 0 0 0;", 4, 7);
        fails("root 2;turn 0 -4 0 0 0 0 0 0;", 4, 7);
        fails("root 2;turn 2 2 2 0 0 0 0 0;", 4, 7);
        fails("root 3;turn 0 2 0 2 0 0 0 0;", 4, 7);
        tells("root 2;turn 0 2 0 2 0 0 0 0;", 8);
        fails("root 2;" + RIGHT + "  turn 3 0 0 0 0 0 0 0;", 4, 7 + RIGHT.length() + 2);
        fails("root 2;" + RIGHT.repeat(3) + "turn 3 0 0 0 0 0 0 0;", 4, 7 + 3 * RIGHT.length());
        says("4 behind its \";\": what is ahead of that is ahead of it");
        fails("root 2;turn 1 0 0 0 0 0 0 0", 1, 27);
        fails("root 2;turn 1 0 0 0 0 0 0 0 0;", 1, 28);
        fails("root 2;turn 1 0 0 0 0 0 0 5;", 2, 26);
        says("of one turn 4 ahead of 5");
        fails("root 2;turn 3 0 0 0 0 0 0 0;", 4, 7);
        fails("root 2;" + Texts.turn(I) + "turn 1 0 0 0 0 0 0 0;", 4, 28);
    }

    private static void notClosed() {
        says("5 those told so far, with this one, do not CLOSE (likewise: at its word, behind its \";\")");
        fails("root 2;" + OPEN_ONE, 5, 7);
        fails("root 2;  " + OPEN_ONE, 5, 9);
        fails("root 2;" + RIGHT.repeat(3) + OPEN_ONE, 5, 7 + 3 * RIGHT.length());
        fails("root 2;" + OPEN_ONE.substring(0, OPEN_ONE.length() - 1), 1, 7 + OPEN_ONE.length() - 1);
        fails("root 2;" + OPEN_ONE.replace(";", " 0;"), 1, 7 + OPEN_ONE.length());
        says("5 those told so far, with this one: each closes by itself");
        int[] a = {1, 1, 0, 0, -1, 1, 2, 0};
        int[] b = {1, 1, 1, -1, 0, 0, -2, 0};
        Check.due(words + "the first", of(5, a).told(1), 1);
        Check.due(words + "the second", of(5, b).told(1), 1);
        fails(Texts.of(5, a, b), 5, Texts.of(5, a).length());
        fails(Texts.of(5, b, a), 5, Texts.of(5, b).length());
        says("5 those told so far, of this text");
        DoubleTurns x = of(5, a);
        Check.due(words + "text", Texts.tell(x, Texts.of(5, b)), of(5, b).told(2));
        says("5 would be more than 120, not 120");
        tells(Texts.of(5, THIRD, FIFTH), 120);
        tells(Texts.of(5, MINUS, ONE, THIRD, FIFTH), 120);
    }

    private static void order() {
        says("FAULTS, the first from the left");
        fails("root 7;turn 9", 2, 5);
        fails("rot 7;", 1, 0);
        fails("root 2;turn 9 0;", 2, 12);
        fails("root 2;turn 4 x 9", 1, 14);
        fails("root 2;turn 3 0 0 0 0 0 0 0;turn 9", 4, 7);
        fails("root 2;turn 3 0 0 0 0 0 0 0;x", 4, 7);
        fails("root 2;turn 3 0 0 0 0 0 0 0;" + RIGHT.repeat(4), 4, 7);
        fails("root 2;" + OPEN_ONE + "x", 5, 7);
        fails("root 2;" + OPEN_ONE + "turn 3 0 0 0 0 0 0 0;", 5, 7);
        fails("root 2;" + OPEN_ONE + RIGHT.repeat(4), 5, 7);
        fails("root 2;" + RIGHT.repeat(4) + "turn 3 0 0 0 0 0 0 0;", 3, 7 + 4 * RIGHT.length());
    }

    private static void allStays() {
        says("the FAULT less 10 (all but the TAPE stays)");
        String[] texts = {"root 3;x", "root 7;", "root 3;" + RIGHT.repeat(5), "root 3;turn 1 0 0 0 0 0 0 0;",
            Texts.of(2, EIGHTH, OPEN), Texts.of(3, TWELFTH) + "turn"};
        int[] codes = {-9, -8, -7, -6, -5, -9};
        for (int i = 0; i < texts.length; i++) {
            DoubleTurns x = new DoubleTurns();
            Texts.add(x, I);
            Texts.add(x, J);
            long print = x.print();
            Check.due(words + texts[i], Texts.tell(x, texts[i]), codes[i]);
            Check.due(words + "bytes", x.told(15), 0);
            int[] told = {2, 2, 8, 5, 2, 4, 1, 2, 4, 3, 17, 6, 1, 4, 2, 0};
            for (int what = 0; what < told.length; what++) {
                Check.due(words + "told " + what + " behind " + texts[i], x.told(what), told[what]);
            }
            Check.due(words + "print", x.print(), print);
            Check.due(words + "a turn of root 2", Texts.add(x, THIRD), 24);
            Check.due(words + "undo", x.undo(), 2);
            Check.due(words + "undo", x.undo(), 1);
            Check.due(words + "elements", x.told(2), 4);
        }
    }

    private static void whole() {
        says("the TAPE has up to 400 bytes: all of them a text");
        String turns = Texts.of(2, I, THIRD);
        String text = turns + " ".repeat(400 - turns.length());
        tells(text, 24);
        fails(text.substring(0, 399) + "x", 1, 399);
        fails(" ".repeat(400), 1, 400);
        fails(" ".repeat(399) + "r", 1, 399);
        fails("root " + "0".repeat(395), 2, 5);
        fails("r" + "o".repeat(399), 1, 0);
        tells("root " + "0".repeat(393) + "3;", 1);
        fails(" ".repeat(394) + "root 2", 1, 400);
        tells(" ".repeat(393) + "root 5;", 1);
    }
}
