import java.util.List;

/** Each promise of the document by hand: ordinary inputs, the edges that it names, wrong inputs. */
public final class PromisesTest extends Samples {
    private static final int LEAST = Integer.MIN_VALUE;
    private static final int MOST = Integer.MAX_VALUE;

    public static void main(String[] args) {
        newObject();
        feed();
        text();
        fault();
        add();
        drop();
        undo();
        why();
        told();
        element();
        find();
        product();
        power();
        of();
        couples();
        axes();
        degree();
        value();
        often();
        opposite();
        ways();
        far();
        withWays();
        invariants();
        inRow();
        row();
        made();
        isMade();
        isKept();
        ofOrder();
        makers();
        print();
        status();
        Check.end("PromisesTest");
    }

    private static void due(String call, long got, long want) {
        Check.due(call, got, want);
    }

    private static void newObject() {
        DoubleTurns x = new DoubleTurns();
        due("1 root", x.told(0), 2);
        due("1 turns", x.told(1), 0);
        due("1 elements", x.told(2), 1);
        due("1 classes", x.told(3), 1);
        due("1 acts", x.told(14), 0);
        due("1 bytes", x.told(15), 0);
        due("1 fault", x.fault(), DoubleTurns.NONE);
        due("1 element 0", Texts.find(x, ONE), 0);
        for (int what = 0; what < 3; what++) {
            due("1 status", x.status(what), 0);
            due("1 why", x.why(what), 0);
        }
        due("NONE", DoubleTurns.NONE, -1);
    }

    private static void feed() {
        DoubleTurns x = new DoubleTurns();
        // "root", " 2 ;", "turn", " 4 0", " 0 0", then " 0 0 0 0;" and 11 more bytes
        due("2 twenty", x.feed(0x726f6f74, 0x2032203b, 0x7475726e, 0x20342030, 0x20302030), 20);
        due("2 forty", x.feed(0x20302030, 0x20302030, 0x3b000000, -1, -1), 40);
        due("2 bytes", x.told(15), 40);
        due("2 highest first", x.text(29), 1);
        due("2 told", x.told(1), 1);
        for (int n = 1; n <= 20; n++) {
            due("2 many", x.feed(0x20202020, 0x20202020, 0x20202020, 0x20202020, 0x20202020), 20 * n);
        }
        due("2 full", x.feed(0x726f6f74, 0, 0, 0, 0), -1);
        due("2 nothing done", x.told(15), 400);
        due("2 nothing there", x.text(400), -9);
        due("2 the end of it", x.fault(), 400);
        due("2 empty", x.feed(1, 2, 3, 4, 5), 20);
    }

    private static void text() {
        DoubleTurns x = new DoubleTurns();
        due("3 octahedral", Texts.tell(x, "root 2;turn 0 2 0 2 0 0 0 0;turn 2 0 2 0 2 0 2 0;"), 48);
        due("3 tape empty", x.told(15), 0);
        due("3 blanks", Texts.tell(x, "  root   5 ;  turn 4 0 0 0 0 0 0 0  ;   "), 1);
        due("3 root", x.told(0), 5);
        due("3 no blanks", Texts.tell(x, "root3;turn0 2-2-0 0 0 0 0;"), 12);
        due("3 blank in a told number", Texts.tell(x, "root 2;turn - 4 0 0 0 0 0 0 0;"), 2);
        due("3 noughts ahead", Texts.tell(x, "root 0002;turn -0004 00 0 0 0 0 0 0;"), 2);
        due("3 no turns", Texts.tell(x, "root 3;"), 1);
        due("3 none told", x.told(1), 0);
        due("3 four", Texts.tell(x, "root 2;" + Texts.turn(ONE).repeat(3) + Texts.turn(I)), 4);
        due("3 four told", x.told(1), 4);
        Texts.feed(x, "root 5;");
        Check.refused("3 less than 0", 1, () -> x.text(-1));
        Check.refused("3 more than there", 1, () -> x.text(21));
        Check.refused("3 least", 1, () -> x.text(LEAST));
        Check.refused("3 most", 1, () -> x.text(MOST));
        due("3 tape stays", x.told(15), 20);
        due("3 then read", x.text(7), 1);
        due("3 all of it gone", x.told(15), 0);
        faults(x);
        textAndUndo();
    }

    private static void faults(DoubleTurns x) {
        Texts.tell(x, "root 2;" + Texts.turn(I));
        x.add(0, 0, 0, 0, 4, 0, 0, 0);
        due("3 fault 1", Texts.tell(x, "root 2"), -9);
        due("3 fault 2", Texts.tell(x, "root 7;"), -8);
        due("3 fault 3", Texts.tell(x, "root 2;" + Texts.turn(ONE).repeat(4) + "turn"), -7);
        due("3 fault 4", Texts.tell(x, "root 2;turn 4 0 4 0 0 0 0 0;"), -6);
        due("3 fault 5", Texts.tell(x, "root 2;" + Texts.turn(OPEN)), -5);
        due("3 fault 4 ahead of the next turn's", Texts.tell(x, "root 2;turn 1 0 0 0 0 0 0 0;turn 5"), -6);
        due("3 all but the tape stays", x.told(2), 8);
        due("3 root stays", x.told(0), 2);
        due("3 acts stay", x.told(14), 1);
        due("3 tape empty", x.told(15), 0);
        due("3 taken back behind faults", x.undo(), 0);
        due("3 elements then", x.told(2), 4);
    }

    private static void textAndUndo() {
        DoubleTurns x = new DoubleTurns();
        Texts.add(x, I);
        x.drop(0);
        due("3 acts", x.told(14), 2);
        due("3 anew", Texts.tell(x, "root 2;"), 1);
        due("3 no acts", x.told(14), 0);
        due("3 nothing taken back", x.undo(), -1);
    }

    private static void place(String text, int code, int place) {
        DoubleTurns x = new DoubleTurns();
        due("4 text '" + text + "'", Texts.tell(x, text), code);
        due("4 fault '" + text + "'", x.fault(), place);
    }

    private static void fault() {
        place(" ", -9, 1);
        place("rootturn 2;", -9, 0);
        place("  roo 2;", -9, 2);
        place("Root 2;", -9, 0);
        place("root x;", -9, 5);
        place("root -2;", -9, 5);
        place("root", -9, 4);
        place("root  ", -9, 6);
        place("root 4", -8, 5);
        place("root 22;", -8, 5);
        place("root 99999999999999999999995;", -8, 5);
        place("root 4294967298;", -8, 5);
        place("root 2 turn", -9, 7);
        place("root 2;turns 4", -9, 7);
        place("rootz 2;", -9, 0);
        place("roota2;", -9, 0);
        place("root`2;", -9, 4);
        place("root{2;", -9, 4);
        place("root 2;turn/", -9, 11);
        place("root 2:", -9, 6);
        place("root 2; 4", -9, 8);
        place("root 2;;", -9, 7);
        place("root 2;turn 4 0 0 0 0 0 0;", -9, 25);
        place("root 2;turn 4 0 0 0 0 0 0 0 0;", -9, 28);
        place("root 2;turn 4 0 4 0 0 0 0 0", -9, 27);
        place("root 2;turn --4", -9, 13);
        place("root 2;turn -", -9, 13);
        place("root 2;turn - 5 0", -8, 12);
        place("root 2;turn 0 5", -8, 14);
        place("root 2;turn 04294967296 ", -8, 12);
        place("root 2;turn 4 0 0 0 0 0 0 0;  turn 4 0 0 0 0 0 0 1;", -6, 30);
        place("root 3;turn 0 4 0 0 0 0 0 0;", -6, 7);
        place("root 2;" + Texts.turn(ONE).repeat(4) + " turn 5", -7, 7 + 4 * 21 + 1);
        place("root 2;" + Texts.turn(ONE).repeat(4) + " tur", -9, 7 + 4 * 21 + 1);
        place("root 2;" + Texts.turn(I) + Texts.turn(OPEN) + "x", -5, 28);
        place("root 2;\u00e9", -9, 7);
        DoubleTurns x = new DoubleTurns();
        Texts.tell(x, "root 2;x");
        Check.refused("4 refused", 1, () -> x.text(1));
        due("4 stays when refused", x.fault(), 7);
        Texts.tell(x, "root 2;");
        due("4 none without", x.fault(), -1);
    }

    private static void add() {
        DoubleTurns x = new DoubleTurns();
        Check.refused("5 above 4", 1, () -> x.add(5, 0, 0, 0, 0, 0, 0, 0));
        Check.refused("5 below -4", 1, () -> x.add(0, 0, 0, 0, 0, 0, 0, -5));
        Check.refused("5 square of 1 by wrapping", 1, () -> x.add(1 << 16, 0, 4, 0, 0, 0, 0, 0));
        Check.refused("5 least", 1, () -> x.add(4, 0, 0, 0, 0, LEAST, 0, 0));
        Check.refused("5 squares too few", 1, () -> x.add(0, 0, 0, 0, 0, 0, 0, 0));
        Check.refused("5 squares with a root", 1, () -> x.add(2, 2, 2, 0, 0, 0, 0, 0));
        due("5 i", Texts.add(x, I), 4);
        due("5 j", Texts.add(x, J), 8);
        Check.refused("5 not closed", 2, () -> Texts.add(x, OPEN));
        due("5 as it was", x.told(2), 8);
        due("5 as it was", x.told(1), 2);
        due("5 as it was", x.told(14), 2);
        due("5 third", Texts.add(x, THIRD), 24);
        due("5 fourth", Texts.add(x, EIGHTH), 48);
        Check.refused("5 a fifth", 2, () -> Texts.add(x, ONE));
        Check.refused("5 a fifth that is none", 1, () -> x.add(1, 0, 0, 0, 0, 0, 0, 0));
        due("5 four", x.told(1), 4);
        DoubleTurns y = of(5, THIRD);
        due("5 icosahedral", Texts.add(y, FIFTH), 120);
        Check.refused("5 eighth of root 5", 1, () -> Texts.add(y, EIGHTH));
    }

    private static void drop() {
        DoubleTurns x = of(2, I, THIRD, EIGHTH);
        Check.refused("6 below", 0, () -> x.drop(-1));
        Check.refused("6 above", 0, () -> x.drop(3));
        Check.refused("6 most", 0, () -> x.drop(MOST));
        due("6 the last", x.drop(2), 24);
        due("6 the first", x.drop(0), 6);
        due("6 one left", x.told(1), 1);
        due("6 it", x.element(1, 0), 2);
        due("6 all gone", x.drop(0), 1);
        Check.refused("6 none left", 0, () -> x.drop(0));
        due("6 acts", x.told(14), 3);
        due("6 the middle one", of(2, I, EIGHTH, J).drop(1), 8);
    }

    private static void undo() {
        DoubleTurns x = new DoubleTurns();
        due("7 none", x.undo(), -1);
        for (int n = 0; n < 5; n++) {
            Texts.add(x, I);
            x.drop(0);
        }
        due("7 eight at most", x.told(14), 8);
        Texts.add(x, THIRD);
        due("7 still eight", x.told(14), 8);
        Check.refused("7 a refused one", 0, () -> x.drop(1));
        Check.refused("7 a refused one", 2, () -> Texts.add(x, OPEN));
        due("7 the latest", x.undo(), 7);
        due("7 without it", x.told(2), 1);
        for (int n = 6; n >= 0; n--) {
            due("7 back", x.undo(), n);
            due("7 elements", x.told(2), n % 2 == 0 ? 4 : 1);
            due("7 i is there", Texts.find(x, I) >= 0 ? 1 : 0, n % 2 == 0 ? 1 : 0);
        }
        due("7 none left", x.undo(), -1);
        due("7 stays", x.told(2), 4);
        DoubleTurns y = of(2, I, J);
        y.drop(0);
        y.undo();
        due("7 in their places", y.element(1, 2), 4);
        due("7 in their places", y.element(2, 4), 4);
        due("7 characters of then", y.told(13), 4);
    }

    private static void whyIs(String call, DoubleTurns x, int... want) {
        for (int what = 0; what < 4; what++) {
            due("8 " + call + " " + what, x.why(what), want[what]);
        }
    }

    private static void why() {
        DoubleTurns x = new DoubleTurns();
        Check.refused("8 open", 2, () -> Texts.add(x, OPEN));
        whyIs("alone", x, 1, 2, 1, 0);
        Texts.add(x, I);
        whyIs("add that was not refused", x, 0, 0, 0, 0);
        Check.refused("8 open", 2, () -> Texts.add(x, OPEN));
        whyIs("behind i", x, 1, 6, 2, 1);
        due("8 nothing changed", x.told(2), 4);
        due("8 another what", x.why(-1), -1);
        due("8 another what", x.why(4), -1);
        due("8 another what", x.why(MOST), -1);
        x.undo();
        whyIs("taken back", x, 1, 6, 2, 1);
        Check.refused("8 no turn", 1, () -> x.add(1, 0, 0, 0, 0, 0, 0, 0));
        whyIs("add refused otherwise", x, 0, 0, 0, 0);
        Texts.tell(x, "root 2;turn 0 0 2 0 2 0 0 -2;turn 0 0 4 0 0 0 0 0;turn 2 0 2 0 -2 0 2 0;");
        whyIs("too many", x, 2, 120, 55, 1);
        Texts.tell(x, "root 2;x");
        whyIs("text with another fault", x, 0, 0, 0, 0);
        Texts.tell(x, "root 2;" + Texts.turn(OPEN));
        whyIs("text", x, 1, 2, 1, 0);
        Check.refused("8 text", 1, () -> x.text(-1));
        whyIs("text refused otherwise", x, 0, 0, 0, 0);
        DoubleTurns y = of(2, ONE, ONE, ONE, ONE);
        Check.refused("8 a fifth", 2, () -> Texts.add(y, OPEN));
        whyIs("a fifth", y, 0, 0, 0, 0);
    }

    private static void toldIs(String call, DoubleTurns x, int... want) {
        for (int what = 0; what < want.length; what++) {
            due("9 " + call + " " + what, x.told(what), want[what]);
        }
    }

    private static void told() {
        toldIs("nothing", new DoubleTurns(), 2, 0, 1, 1, 1, 1, 0, 1, 1, -1, 7, 3, 0, 0, 0, 0);
        toldIs("minus", of(2, MINUS), 2, 1, 2, 2, 2, 2, 0, 2, 1, 1, 7, 3, 0, 1, 0, 0);
        toldIs("three", of(2, new int[] {-2, 0, 2, 0, 2, 0, 2, 0}), 2, 1, 3, 3, 3, 3, 0, 3, 3, -1, 7, 3, 0, 2);
        toldIs("twelve", of(3, new int[] {0, 2, 2, 0, 0, 0, 0, 0}), 3, 1, 12, 12, 12, 12, 0, 12, 6, 6, 37, 15, 0, 11);
        toldIs("eight", eight(), 2, 2, 8, 5, 2, 4, 1, 2, 4, 3, 17, 6, 1, 4);
        toldIs("sixteen", of(2, EIGHTH, J), 2, 2, 16, 7, 2, 8, 1, 4, 8, 6, 41, 17, 1, 6);
        toldIs("tetrahedral", tetrahedral(), 2, 2, 24, 7, 2, 12, 2, 3, 12, 3, 73, 32, 2, 6);
        toldIs("octahedral", octahedral(), 2, 2, 48, 8, 2, 24, 3, 4, 24);
        due("9 octahedral prime", octahedral().told(10), 97);
        due("9 octahedral root", octahedral().told(11), 14);
        due("9 octahedral diagram", octahedral().told(12), 2);
        toldIs("icosahedral", icosahedral(), 5, 2, 120, 9, 2, 60, 4, 5, 60);
        due("9 icosahedral prime", icosahedral().told(10), 241);
        due("9 icosahedral root", icosahedral().told(11), 103);
        DoubleTurns x = eight();
        x.drop(1);
        x.feed(1, 2, 3, 4, 5);
        due("9 acts", x.told(14), 1);
        due("9 bytes", x.told(15), 20);
        for (int what : new int[] {-1, 16, LEAST, MOST}) {
            Check.refused("9 another what", 1, () -> x.told(what));
        }
    }

    private static void element() {
        DoubleTurns x = of(2, EIGHTH, J);
        int[] want = {0, 2, 0, 2, 0, 0, 0, 0, 8};
        for (int what = 0; what < want.length; what++) {
            due("10 eighth " + what, x.element(1, what), want[what]);
        }
        due("10 inverse", x.element(x.element(1, 9), 3), -2);
        due("10 order of 1", x.element(0, 8), 1);
        due("10 class", x.element(x.element(1, 9), 10), x.element(1, 10));
        due("10 class of 1", x.element(0, 10), 0);
        due("10 order of -1", x.element(x.told(9), 8), 2);
        Check.refused("10 below", 0, () -> x.element(-1, 0));
        Check.refused("10 above", 0, () -> x.element(16, 0));
        Check.refused("10 this first", 0, () -> x.element(16, 11));
        Check.refused("10 what", 1, () -> x.element(15, 11));
        Check.refused("10 what", 1, () -> x.element(0, -1));
        int[] inverses = {0, 6, 7, 3, 5, 4, 1, 2};
        int[] classes = {0, 1, 2, 3, 4, 4, 1, 2};
        DoubleTurns y = eight();
        for (int k = 0; k < 8; k++) {
            due("10 inverse of " + k, y.element(k, 9), inverses[k]);
            due("10 class of " + k, y.element(k, 10), classes[k]);
        }
    }

    private static void find() {
        DoubleTurns x = eight();
        due("11 i", Texts.find(x, I), 1);
        due("11 -k", x.find(0, 0, 0, 0, 0, 0, -4, 0), 5);
        due("11 third", Texts.find(x, THIRD), -1);
        due("11 none such", x.find(4, 0, 0, 0, 0, 0, 0, 1), -1);
        due("11 wild", x.find(LEAST, MOST, LEAST, MOST, 0, 0, 0, 0), -1);
        due("11 roots", of(2, EIGHTH).find(0, 2, 0, 2, 0, 0, 0, 0), 1);
    }

    private static void product() {
        DoubleTurns x = eight();
        due("12 i j", x.product(1, 2), 4);
        due("12 j i", x.product(2, 1), 5);
        due("12 i i", x.product(1, 1), 3);
        due("12 j k", x.product(2, 4), 1);
        due("12 1 k", x.product(0, 4), 4);
        Check.refused("12 below", 0, () -> x.product(-1, 0));
        Check.refused("12 above", 0, () -> x.product(0, 8));
        Check.refused("12 most", 0, () -> x.product(MOST, LEAST));
    }

    private static void power() {
        DoubleTurns x = eight();
        int[] want = {0, 1, 3, 6};
        for (int n = -9; n <= 9; n++) {
            due("13 i to " + n, x.power(1, n), want[Math.floorMod(n, 4)]);
        }
        due("13 least", x.power(1, LEAST), 0);
        due("13 most", x.power(1, MOST), 6);
        due("13 of 1", x.power(0, MOST), 0);
        Check.refused("13 below", 0, () -> x.power(-1, 0));
        Check.refused("13 above", 0, () -> x.power(8, 1));
    }

    private static void of() {
        DoubleTurns x = of(2, EIGHTH);
        // S is 6 modulo 17: twice r / 2 is 6; of -r / 2 it is 11
        int[] want = {1, 1, 8, 7, 6, 0, 2};
        for (int what = 0; what < want.length; what++) {
            due("14 of 1 " + what, x.of(1, what), want[what]);
        }
        due("14 natural of 0", x.of(0, 4), 2);
        due("14 natural of 3", x.of(3, 4), 11);
        due("14 b of 3", x.of(3, 6), -2);
        due("14 a of -1", x.of(4, 5), -4);
        DoubleTurns y = icosahedral();
        int sum = 0;
        for (int c = 0; c < 9; c++) {
            sum += y.of(c, 0);
            due("14 inverses", y.of(c, 3), c);
        }
        due("14 all elements", sum, 120);
        Check.refused("14 below", 0, () -> x.of(-1, 0));
        Check.refused("14 above", 0, () -> x.of(8, 0));
        Check.refused("14 this first", 0, () -> x.of(8, 7));
        Check.refused("14 what", 1, () -> x.of(7, 7));
        Check.refused("14 what", 1, () -> x.of(0, -1));
    }

    private static void couples() {
        DoubleTurns x = eight();
        due("15 i i 1", x.couples(1, 1, 0), 2);
        due("15 i i -1", x.couples(1, 1, 3), 2);
        due("15 i j k", x.couples(1, 2, 4), 2);
        due("15 i j 1", x.couples(1, 2, 0), 0);
        due("15 1 k k", x.couples(0, 4, 4), 1);
        due("15 first and second", of(2, I).couples(1, 2, 3), 1);
        for (int n : new int[] {-1, 5, MOST}) {
            Check.refused("15 first", 0, () -> x.couples(n, 0, 0));
            Check.refused("15 second", 0, () -> x.couples(0, n, 0));
            Check.refused("15 third", 0, () -> x.couples(0, 0, n));
        }
    }

    private static void axes(String call, DoubleTurns x, int... want) {
        for (int n = 2; n <= 8; n++) {
            int due = 0;
            for (int i = 0; i < want.length; i += 2) {
                due = want[i] == n ? want[i + 1] : due;
            }
            due("16 " + call + " " + n, x.axes(n), due);
        }
    }

    private static void axes() {
        axes("nothing", new DoubleTurns());
        axes("minus", of(2, MINUS));
        axes("three", of(2, new int[] {-2, 0, 2, 0, 2, 0, 2, 0}), 3, 1);
        axes("six", of(2, THIRD), 3, 1);
        axes("twelve", of(3, new int[] {0, 2, 2, 0, 0, 0, 0, 0}), 6, 1);
        axes("eight", eight(), 2, 3);
        axes("sixteen", of(2, EIGHTH, J), 2, 4, 4, 1);
        axes("tetrahedral", tetrahedral(), 2, 3, 3, 4);
        axes("octahedral", octahedral(), 2, 6, 3, 4, 4, 3);
        axes("icosahedral", icosahedral(), 2, 15, 3, 10, 5, 6);
        DoubleTurns x = eight();
        due("16 highest", x.axes(120), 0);
        for (int n : new int[] {1, 0, 121, LEAST, MOST}) {
            Check.refused("16 another n", 1, () -> x.axes(n));
        }
    }

    private static void degree(String call, DoubleTurns x, int... want) {
        for (int c = 0; c < want.length; c++) {
            due("17 " + call + " " + c, x.degree(c), want[c]);
        }
        Check.refused("17 " + call, 0, () -> x.degree(want.length));
        Check.refused("17 " + call, 0, () -> x.degree(-1));
    }

    private static void degree() {
        degree("nothing", new DoubleTurns(), 1);
        degree("six", of(2, THIRD), 1, 1, 1, 1, 1, 1);
        degree("eight", eight(), 1, 1, 1, 1, 2);
        degree("sixteen", of(2, EIGHTH, J), 1, 1, 1, 1, 2, 2, 2);
        degree("tetrahedral", tetrahedral(), 1, 1, 1, 2, 2, 2, 3);
        degree("octahedral", octahedral(), 1, 1, 2, 2, 2, 3, 3, 4);
        degree("icosahedral", icosahedral(), 1, 2, 2, 3, 3, 4, 4, 5, 6);
    }

    private static void value() {
        // classes 1, i, j, -1, k; modulo 17
        int[][] want = {{1, 1, 1, 1, 1}, {1, 1, 16, 1, 16}, {1, 16, 1, 1, 16}, {1, 16, 16, 1, 1}, {2, 0, 0, 15, 0}};
        DoubleTurns x = eight();
        for (int c = 0; c < 5; c++) {
            for (int k = 0; k < 5; k++) {
                due("18 value " + c + " " + k, x.value(c, k), want[c][k]);
            }
        }
        // powers of i are 1, 4, 16, 13 modulo 17: told by the value at i, which is 4, 13, 16
        int[][] cyclic = {{1, 1, 1, 1}, {1, 4, 16, 13}, {1, 13, 16, 4}, {1, 16, 1, 16}};
        DoubleTurns y = of(2, I);
        for (int c = 0; c < 4; c++) {
            for (int k = 0; k < 4; k++) {
                due("18 cyclic " + c + " " + k, y.value(c, k), cyclic[c][k]);
            }
        }
        for (int n : new int[] {-1, 5, LEAST}) {
            Check.refused("18 character", 0, () -> x.value(n, 0));
            Check.refused("18 class", 0, () -> x.value(0, n));
        }
    }

    private static void often() {
        DoubleTurns x = eight();
        due("19 2 x 2 has 1", x.often(4, 4, 0), 1);
        due("19 2 x 2 has each of degree 1", x.often(4, 4, 2), 1);
        due("19 2 x 2 has no 2", x.often(4, 4, 4), 0);
        due("19 1 x 2 is 3", x.often(1, 2, 3), 1);
        due("19 opposite", of(2, I).often(1, 2, 0), 1);
        due("19 not itself", of(2, I).often(1, 1, 0), 0);
        due("19 5 x 6 has 6 thrice", icosahedral().often(7, 8, 8), 3);
        for (int n : new int[] {-1, 5, MOST}) {
            Check.refused("19 first", 0, () -> x.often(n, 0, 0));
            Check.refused("19 second", 0, () -> x.often(0, n, 0));
            Check.refused("19 third", 0, () -> x.often(0, 0, n));
        }
    }

    private static void opposite() {
        DoubleTurns x = of(2, I);
        int[] want = {0, 2, 1, 3};
        for (int c = 0; c < 4; c++) {
            due("20 opposite " + c, x.opposite(c), want[c]);
            due("20 of eight " + c, eight().opposite(c), c);
        }
        Check.refused("20 below", 0, () -> x.opposite(-1));
        Check.refused("20 above", 0, () -> x.opposite(4));
    }

    private static void ways() {
        DoubleTurns x = eight();
        for (int a = 0; a < 5; a++) {
            for (int b = 0; b < 5; b++) {
                due("21 eight " + a + " " + b, x.ways(a, b), (a == 4) != (b == 4) ? 1 : 0);
            }
        }
        due("21 nothing", new DoubleTurns().ways(0, 0), 2);
        due("21 minus", of(2, MINUS).ways(1, 0), 2);
        due("21 minus", of(2, MINUS).ways(1, 1), 0);
        Check.refused("21 below", 0, () -> x.ways(-1, 0));
        Check.refused("21 above", 0, () -> x.ways(0, 5));
    }

    private static void far() {
        DoubleTurns x = eight();
        due("22 itself", x.far(3, 3), 0);
        due("22 two", x.far(0, 3), 2);
        due("22 one", x.far(4, 3), 1);
        due("22 ring", of(2, I).far(0, 3), 2);
        DoubleTurns y = icosahedral();
        // the long arm of the star: 1, 2, 3, 4, 5, 6; the others from 6 on: 4, 2 and 3
        int[] arm = {0, y.ways(0, 1) == 1 ? 1 : 2};
        due("22 arm's end", y.far(0, arm[1]), 1);
        due("22 the middle", y.far(0, 8), 5);
        due("22 the end of the arm of two", y.far(0, 3 - arm[1]), 7);
        due("22 arms' ends", y.far(3 - arm[1], 0), 7);
        Check.refused("22 below", 0, () -> x.far(0, -1));
        Check.refused("22 above", 0, () -> x.far(5, 0));
    }

    private static void withWays(String call, DoubleTurns x, int... want) {
        for (int n = 0; n <= 4; n++) {
            due("23 " + call + " " + n, x.withWays(n), want[n]);
        }
    }

    private static void withWays() {
        withWays("nothing", new DoubleTurns(), 0, 0, 1, 0, 0);
        withWays("minus", of(2, MINUS), 0, 0, 2, 0, 0);
        withWays("six", of(2, THIRD), 0, 0, 6, 0, 0);
        withWays("eight", eight(), 0, 4, 0, 0, 1);
        withWays("sixteen", of(2, EIGHTH, J), 0, 4, 1, 2, 0);
        withWays("tetrahedral", tetrahedral(), 0, 3, 3, 1, 0);
        withWays("icosahedral", icosahedral(), 0, 3, 5, 1, 0);
        DoubleTurns x = eight();
        for (int n : new int[] {-1, 5, MOST}) {
            Check.refused("23 another n", 1, () -> x.withWays(n));
        }
    }

    private static void invariants() {
        DoubleTurns x = new DoubleTurns();
        for (int k : new int[] {0, 1, 6, 7, 199, 200}) {
            due("24 nothing " + k, x.invariants(k), k + 1);
            due("24 minus " + k, of(2, MINUS).invariants(k), k % 2 == 0 ? k + 1 : 0);
        }
        // as many as ways to write the degree by 8, 12 and by 18 at most once (tetrahedral: 6, 8, 12; icosahedral: 12, 20, 30)
        for (int k = 0; k <= 200; k += 1) {
            due("24 octahedral " + k, octahedral().invariants(k), sums(k, 8, 12) + sums(k - 18, 8, 12));
        }
        for (int k = 0; k <= 200; k += 5) {
            due("24 tetrahedral " + k, tetrahedral().invariants(k), sums(k, 6, 8) + sums(k - 12, 6, 8));
            due("24 icosahedral " + k, icosahedral().invariants(k), sums(k, 12, 20) + sums(k - 30, 12, 20));
        }
        for (int n : new int[] {-1, 201, LEAST, MOST}) {
            Check.refused("24 another degree", 1, () -> x.invariants(n));
        }
    }

    private static int sums(int k, int a, int b) {
        int sums = 0;
        for (int n = k; n >= 0; n -= a) {
            sums += n % b == 0 ? 1 : 0;
        }
        return sums;
    }

    private static void inRow() {
        DoubleTurns x = eight();
        due("25 row 0", x.inRow(0, 0), 1);
        due("25 row 0", x.inRow(1, 0), 0);
        due("25 row 1", x.inRow(4, 1), 1);
        due("25 row 2", x.inRow(2, 2), 1);
        due("25 row 2", x.inRow(0, 2), 0);
        due("25 row 3", x.inRow(4, 3), 2);
        due("25 row 200", x.inRow(0, 200), x.invariants(200) % 17);
        due("25 modulo", new DoubleTurns().inRow(0, 200), 201 % 7);
        Check.refused("25 character", 0, () -> x.inRow(5, 0));
        Check.refused("25 this first", 0, () -> x.inRow(-1, 201));
        Check.refused("25 row", 1, () -> x.inRow(0, 201));
        Check.refused("25 row", 1, () -> x.inRow(0, -1));
    }

    private static void row() {
        DoubleTurns x = eight();
        due("26 first", x.row(0, 0), 0);
        due("26 second", x.row(0, 1), 4);
        due("26 of 2", x.row(4, 0), 1);
        due("26 of 2", x.row(4, 1), 3);
        due("26 below 0", x.row(0, -1), -1);
        due("26 least", x.row(0, LEAST), -1);
        due("26 not so many", x.row(0, 200), -1);
        DoubleTurns y = new DoubleTurns();
        // modulo 7 the rows 6, 13, .. 195 have 0
        due("26 modulo", y.row(0, 6), 7);
        due("26 the last", y.row(0, 172), 200);
        due("26 behind the last", y.row(0, 173), -1);
        Check.refused("26 below", 0, () -> x.row(-1, 0));
        Check.refused("26 above", 0, () -> x.row(5, -1));
    }

    private static void made() {
        DoubleTurns x = eight();
        due("27 i, j", x.made(1, 2, 0), 8);
        due("27 all", x.made(1, 2, 1), -1);
        due("27 i, i", x.made(1, 1, 0), 4);
        due("27 beside i", x.made(1, 1, 1), 2);
        due("27 -1", x.made(3, 0, 0), 2);
        due("27 1", x.made(0, 0, 0), 1);
        due("27 beside 1", x.made(0, 0, 1), 1);
        Check.refused("27 first", 0, () -> x.made(8, 0, 0));
        Check.refused("27 second", 0, () -> x.made(0, -1, 0));
        Check.refused("27 this first", 0, () -> x.made(0, 8, 2));
        Check.refused("27 what", 1, () -> x.made(0, 0, 2));
        Check.refused("27 what", 1, () -> x.made(0, 0, -1));
    }

    private static void isMade() {
        DoubleTurns x = eight();
        for (int k : new int[] {0, 1, 3, 6}) {
            Check.due("28 of i " + k, x.isMade(1, 1, k), true);
        }
        for (int k : new int[] {2, 4, 5, 7}) {
            Check.due("28 of i " + k, x.isMade(1, 3, k), false);
        }
        for (int n : new int[] {-1, 8, MOST}) {
            Check.refused("28 first", 0, () -> x.isMade(n, 0, 0) ? 1 : 0);
            Check.refused("28 second", 0, () -> x.isMade(0, n, 0) ? 1 : 0);
            Check.refused("28 third", 0, () -> x.isMade(0, 0, n) ? 1 : 0);
        }
    }

    private static void isKept() {
        DoubleTurns x = tetrahedral();
        int i = Texts.find(x, I);
        int j = Texts.find(x, J);
        Check.due("29 the eight", x.isKept(i, j), true);
        Check.due("29 i alone", x.isKept(i, i), false);
        Check.due("29 the third", x.isKept(2, 2), false);
        Check.due("29 minus", x.isKept(x.told(9), 0), true);
        Check.due("29 minus and i", x.isKept(x.told(9), i), false);
        Check.due("29 1", x.isKept(0, 0), true);
        Check.due("29 all", x.isKept(i, 2), true);
        Check.refused("29 first", 0, () -> x.isKept(24, 0) ? 1 : 0);
        Check.refused("29 second", 0, () -> x.isKept(0, -1) ? 1 : 0);
    }

    private static void ofOrder() {
        DoubleTurns x = eight();
        due("30 least of 4", x.ofOrder(4, 0), 1);
        due("30 count of 4", x.ofOrder(4, 1), 6);
        due("30 least of 2", x.ofOrder(2, 0), 3);
        due("30 least of 1", x.ofOrder(1, 0), 0);
        due("30 none", x.ofOrder(8, 0), -1);
        due("30 none", x.ofOrder(120, 1), 0);
        due("30 icosahedral", icosahedral().ofOrder(10, 1), 24);
        for (int n : new int[] {0, -1, 121, MOST}) {
            Check.refused("30 order", 1, () -> x.ofOrder(n, 0));
        }
        Check.refused("30 what", 1, () -> x.ofOrder(4, 2));
        Check.refused("30 what", 1, () -> x.ofOrder(4, -1));
    }

    private static void makers(String call, DoubleTurns x, int first, int second) {
        due("31 " + call, x.makers(0), first);
        due("31 " + call, x.makers(1), second);
    }

    private static void makers() {
        makers("nothing", new DoubleTurns(), 0, 0);
        makers("four", of(2, I), 0, 1);
        makers("four, its maker later", of(2, MINUS, I), 0, 2);
        makers("eight", eight(), 1, 2);
        makers("eight, makers later", of(2, MINUS, J, I), 2, 3);
        DoubleTurns x = of(2, I);
        makers("ahead of j", x, 0, 1);
        Texts.add(x, J);
        makers("behind j", x, 1, 2);
        x.undo();
        makers("taken back", x, 0, 1);
        Check.refused("31 what", 1, () -> x.makers(2));
        Check.refused("31 what", 1, () -> x.makers(-1));
    }

    private static void print() {
        due("32 nothing", new DoubleTurns().print(), 31);
        // 1, 0, then 2, 1
        due("32 minus", of(2, MINUS).print(), (31 * 31 + 2) * 31 + 1);
        int[] told = {1, 0, 4, 1, 4, 2, 2, 3, 4, 4, 4, 4, 4, 1, 4, 2};
        long print = 0;
        for (int n : told) {
            print = 31 * print + n;
        }
        due("32 eight", eight().print(), print);
    }

    private static void status() {
        DoubleTurns x = eight();
        for (int what : new int[] {-1, 3, LEAST, MOST}) {
            due("33 another what", x.status(what), -1);
        }
        List<Check.Call> missing = List.of(() -> x.drop(2), () -> x.element(8, 99), () -> x.value(0, 5));
        List<Check.Call> unfit = List.of(() -> x.text(1), () -> x.told(16), () -> x.axes(1), () -> x.makers(2));
        for (Check.Call call : missing) {
            Check.refused("33 missing", 0, call);
        }
        for (Check.Call call : unfit) {
            Check.refused("33 unfit", 1, call);
        }
        Check.refused("33 untimely", 2, () -> Texts.add(x, OPEN));
        x.undo();
        Texts.tell(x, "root 7");
        x.find(9, 9, 9, 9, 9, 9, 9, 9);
        due("33 missing", x.status(0), 3);
        due("33 unfit", x.status(1), 4);
        due("33 untimely", x.status(2), 1);
    }
}
