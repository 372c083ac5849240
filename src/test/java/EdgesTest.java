import java.math.BigInteger;
import java.util.function.Supplier;
import java.util.function.ToLongFunction;

/**
 * Each sentence of promises 1 to 33 that names a boundary, by itself: its words
 * stand in says(), what looks at them behind that. The faults of a text are
 * looked at by FaultsTest.
 */
public final class EdgesTest extends Samples {
    private static final int LEAST = Integer.MIN_VALUE;
    private static final int MOST = Integer.MAX_VALUE;
    private static final int NONE = DoubleTurns.NONE;
    private static final int MISSING = 0;
    private static final int UNFIT = 1;
    private static final int UNTIMELY = 2;
    /** Three turns of root 3, two of which close: with 120 elements there, 62 by 2 has no quarters. */
    private static final int[][] OPEN_AT_120 = {
        {-2, 0, 2, 0, -2, 0, -2, 0}, {2, 0, -2, 0, 2, 0, 2, 0}, {0, -2, 0, 0, 0, 0, -2, 0}};
    /** Three turns of root 2, two of which close: 58 by 1 would be one more than 120, 58 by 2 has no quarters. */
    private static final int[][] TOO_MANY = {
        {0, 0, 0, 0, -4, 0, 0, 0}, {0, 0, 0, 0, 0, -2, 0, 2}, {0, 2, 2, 0, 0, 1, 0, 1}};
    private static String words = "";

    public static void main(String[] args) {
        newObject();
        feed();
        text();
        fault();
        add();
        addNumbers();
        closing();
        drop();
        undo();
        undoAll();
        why();
        whyStays();
        missing();
        missingAhead();
        unfit();
        lastOnes();
        noRefusals();
        told();
        prime();
        kind();
        element();
        find();
        power();
        axes();
        characters();
        graph();
        rows();
        made();
        orders();
        print();
        status();
        Check.end("EdgesTest");
    }

    private static void says(int promise, String sentence) {
        words = promise + " '" + sentence + "' ";
    }

    private static void due(String call, long got, long want) {
        Check.due(words + call, got, want);
    }

    private static void same(String call, String got, String want) {
        if (!got.equals(want)) {
            Check.say(words + call + ": " + got + ", due is " + want);
        }
    }

    /** All that can be asked of what is told; of the first eight elements alone, for the sake of calls. */
    private static String seen(DoubleTurns x) {
        StringBuilder all = new StringBuilder();
        for (int what = 0; what <= 14; what++) {
            all.append(x.told(what)).append(' ');
        }
        int count = Math.min(x.told(2), 8);
        for (int k = 0; k < count; k++) {
            for (int what = 0; what <= 8; what++) {
                all.append(x.element(k, what)).append(' ');
            }
        }
        return all.append(x.print()).toString();
    }

    private static String reasons(DoubleTurns x) {
        return x.why(0) + " " + x.why(1) + " " + x.why(2) + " " + x.why(3);
    }

    /** What is told, the tape, the fault and why. */
    private static String whole(DoubleTurns x) {
        return seen(x) + ", tape " + x.told(15) + ", fault " + x.fault() + ", why " + reasons(x);
    }

    private static void refused(String call, int kind, ToLongFunction<DoubleTurns> made) {
        refused(call, kind, EdgesTest::busy, made);
    }

    /** The call is refused so, is counted so, and changes nothing else. */
    private static void refused(String call, int kind, Supplier<DoubleTurns> object, ToLongFunction<DoubleTurns> made) {
        DoubleTurns x = object.get();
        String before = whole(x);
        refusedAlone(call, kind, x, made);
        same(call + " changed something", whole(x), before);
    }

    private static void refusedAlone(String call, int kind, DoubleTurns x, ToLongFunction<DoubleTurns> made) {
        int[] counts = {x.status(0), x.status(1), x.status(2)};
        Check.refused(words + call, kind, () -> made.applyAsLong(x));
        for (int what = 0; what < 3; what++) {
            due(call + ", status " + what, x.status(what), counts[what] + (what == kind ? 1 : 0));
        }
    }

    private static void tried(Check.Call call) {
        try {
            call.answer();
            Check.say(words + "a call that must be refused was not");
        } catch (RuntimeException refusal) {
            // which one it is, other tests look at
        }
    }

    /** Eight elements by two acts, 20 bytes on the tape, a fault at 5, a why, and refusals of each reason. */
    private static DoubleTurns busy() {
        DoubleTurns x = new DoubleTurns();
        Texts.tell(x, "root 7;");
        Texts.add(x, I);
        Texts.add(x, J);
        tried(() -> x.drop(2));
        tried(() -> x.told(16));
        tried(() -> x.told(16));
        tried(() -> Texts.add(x, OPEN));
        Texts.feed(x, "root 5;");
        return x;
    }

    private static DoubleTurns four() {
        return of(2, I, J, MINUS, ONE);
    }

    private static void newObject() {
        says(1, "ROOT 2, no TURNS: one ELEMENT");
        DoubleTurns x = new DoubleTurns();
        int[] told = {2, 0, 1, 1, 1, 1, 0, 1, 1, NONE, 7, 3, 0, 0, 0, 0};
        for (int what = 0; what < told.length; what++) {
            due("told " + what, x.told(what), told[what]);
        }
        int[] first = {4, 0, 0, 0, 0, 0, 0, 0, 1, 0, 0};
        for (int what = 0; what < first.length; what++) {
            due("element 0, " + what, x.element(0, what), first[what]);
        }
        due("fault", x.fault(), NONE);
        same("why", reasons(x), "0 0 0 0");
        due("status", x.status(0) + x.status(1) + x.status(2), 0);
        due("undo", x.undo(), NONE);
        refused("drop", MISSING, DoubleTurns::new, y -> y.drop(0));
        refused("text", UNFIT, DoubleTurns::new, y -> y.text(1));
        says(1, "a second object has what it has by itself");
        Texts.add(x, I);
        due("elements of another one", new DoubleTurns().told(2), 1);
        due("elements", x.told(2), 4);
    }

    private static void feed() {
        says(2, "of each number the highest first");
        DoubleTurns x = new DoubleTurns();
        due("feed", x.feed(0x726f6f74, 0x20202035, 0x3b202020, 0x7475726e, 0x202d3420), 20);
        due("feed", x.feed(0x30203020, 0x30203020, 0x30203020, 0x303bffff, 0x80000000), 40);
        due("text", x.text(34), 2);
        due("root", x.told(0), 5);
        says(2, "twenty bytes, those above 127 too");
        x.feed(0xa0726f6f, 0x7420323b, LEAST, NONE, MOST);
        due("text", x.text(8), -9);
        due("fault", x.fault(), 0);
        says(2, "how many there are");
        for (int n = 20; n <= 400; n += 20) {
            due("feed", x.feed(NONE, LEAST, MOST, 0, 0x20202020), n);
            due("bytes", x.told(15), n);
        }
        says(2, "NONE, doing nothing, if there would be more than 400");
        String before = whole(x);
        due("feed", x.feed(0x726f6f74, 0x20323b20, 0x20202020, 0x20202020, 0x20202020), NONE);
        due("feed", x.feed(0, 0, 0, 0, 0), NONE);
        same("something done", whole(x), before);
        due("status", x.status(0) + x.status(1) + x.status(2), 0);
        says(2, "NONE, doing nothing: the bytes that stand there stay, and 400 of them can be read");
        DoubleTurns y = new DoubleTurns();
        Texts.feed(y, " ".repeat(380) + "root 3;" + " ".repeat(13));
        due("feed", y.feed(0x78787878, 0x78787878, 0x78787878, 0x78787878, 0x78787878), NONE);
        due("text", y.text(400), 1);
        due("root", y.told(0), 3);
        due("feed behind text", y.feed(1, 2, 3, 4, 5), 20);
    }

    private static void text() {
        says(3, "IllegalArgumentException: n is not 0 to the TAPE's bytes (it stays)");
        for (int n : new int[] {-1, 21, 400, LEAST, MOST}) {
            DoubleTurns x = busy();
            String before = seen(x);
            refusedAlone("text " + n, UNFIT, x, y -> y.text(n));
            same("text " + n + " changed something", seen(x), before);
            due("bytes", x.told(15), 20);
            due("fault", x.fault(), 5);
            due("text", x.text(7), 1);
            due("root", x.told(0), 5);
        }
        refusedAlone("text 1 of an empty tape", UNFIT, new DoubleTurns(), y -> y.text(1));
        says(3, "the first n bytes: 0, too");
        DoubleTurns x = busy();
        due("text", x.text(0), -9);
        due("fault", x.fault(), 0);
        due("bytes", x.told(15), 0);
        due("text of an empty tape", x.text(0), -9);
        says(3, "the first n bytes (empty then): what is behind them is neither read nor kept");
        due("text", Texts.tell(x, "root 3;root"), -9);
        Texts.feed(x, "root 3;root");
        due("text", x.text(7), 1);
        due("bytes", x.told(15), 0);
        due("feed", Texts.feed(x, "root 5;"), 20);
        due("text", x.text(7), 1);
        due("root", x.told(0), 5);
        says(3, "tell all anew (nothing can be taken back)");
        DoubleTurns y = busy();
        due("text", y.text(7), 1);
        due("turns", y.told(1), 0);
        due("acts", y.told(14), 0);
        due("undo", y.undo(), NONE);
        due("root", y.told(0), 5);
        due("j is gone", Texts.find(y, J), NONE);
    }

    private static void fault() {
        says(4, "of the latest text() that was not refused by an exception");
        DoubleTurns x = busy();
        due("fault", x.fault(), 5);
        tried(() -> x.text(21));
        due("behind an exception", x.fault(), 5);
        due("asked again", x.fault(), 5);
        Texts.add(x, ONE);
        x.drop(0);
        x.undo();
        due("behind others", x.fault(), 5);
        says(4, "NONE without");
        due("before any", new DoubleTurns().fault(), NONE);
        due("text", x.text(7), 1);
        due("behind a right one", x.fault(), NONE);
    }

    private static void add() {
        says(5, "IllegalStateException: there are four");
        DoubleTurns x = of(2, I, J, MINUS);
        due("the fourth", Texts.add(x, ONE), 8);
        refused("a fifth, one of the elements", UNTIMELY, EdgesTest::four, y -> Texts.add(y, I));
        refused("a fifth that does not close", UNTIMELY, EdgesTest::four, y -> Texts.add(y, OPEN));
        says(5, "IllegalStateException: behind others");
        refused("a fifth that is no turn", UNFIT, EdgesTest::four, y -> y.add(4, 0, 1, 0, 0, 0, 0, 0));
        refused("a fifth with a 5", UNFIT, EdgesTest::four, y -> y.add(5, 0, 0, 0, 0, 0, 0, 0));
        says(5, "IllegalStateException: it does not CLOSE");
        DoubleTurns z = eight();
        String before = seen(z);
        refusedAlone("open", UNTIMELY, z, y -> Texts.add(y, OPEN));
        same("open changed something", seen(z), before);
        due("acts", z.told(14), 0);
        says(5, "a TURN more: one that is there already, too");
        due("again", Texts.add(z, J), 8);
        due("turns", z.told(1), 3);
        due("acts", z.told(14), 1);
    }

    private static void addNumbers() {
        says(5, "IllegalArgumentException: not -4 to 4 each");
        for (int place = 0; place < 8; place++) {
            for (int n : new int[] {5, -5, 8, -12, 20, 260, 65540, 1 << 30, LEAST, LEAST + 4, MOST}) {
                int[] t = I.clone();
                t[place] = n;
                refusedAlone("number " + place + " is " + n, UNFIT, new DoubleTurns(), y -> Texts.add(y, t));
            }
        }
        for (int place = 0; place < 8; place += 2) {
            for (int n : new int[] {4, -4}) {
                int[] t = new int[8];
                t[place] = n;
                due("number " + place + " is " + n, Texts.add(new DoubleTurns(), t), place > 0 ? 4 : n == 4 ? 1 : 2);
            }
        }
        says(5, "IllegalArgumentException: no TURN");
        int[][] none = {{0, 0, 0, 0, 0, 0, 0, 0}, {3, 0, 2, 0, 1, 0, 1, 0}, {4, 0, 1, 0, 0, 0, 0, 0}, {0, 4, 0, 0, 0, 0, 0, 0},
            {0, -3, 0, 0, 0, 0, 0, 0}, {2, 2, 2, 0, 0, 0, 0, 0}, {2, 0, 2, 0, 2, 0, 1, 0}, {0, 2, 0, 2, 0, 1, 0, 0},
            {0, 0, 0, 0, 0, 0, 0, 3}};
        for (int[] t : none) {
            refusedAlone(Texts.turn(t), UNFIT, new DoubleTurns(), y -> Texts.add(y, t));
        }
        says(5, "a TURN of the ROOT that is told");
        refusedAlone("eighth of root 3", UNFIT, of(3), y -> Texts.add(y, EIGHTH));
        refusedAlone("twelfth of root 2", UNFIT, of(2), y -> Texts.add(y, TWELFTH));
        refusedAlone("fifth of root 3", UNFIT, of(3), y -> Texts.add(y, FIFTH));
        due("eighth of root 2", Texts.add(of(2), EIGHTH), 8);
        due("twelfth of root 3", Texts.add(of(3), TWELFTH), 12);
        due("fifth of root 5", Texts.add(of(5), FIFTH), 5);
    }

    private static void closing() {
        says(5, "it does not CLOSE, 2: if there would be more than 120 (120 close)");
        DoubleTurns x = of(5, THIRD);
        due("120", Texts.add(x, FIFTH), 120);
        due("120, told once more", Texts.add(x, MINUS), 120);
        says(5, "it does not CLOSE: of both the one that comes first");
        for (int[][] turns : new int[][][] {OPEN_AT_120, TOO_MANY}) {
            boolean open = turns == OPEN_AT_120;
            DoubleTurns y = of(open ? 3 : 2, turns[0], turns[1]);
            refusedAlone("the third", UNTIMELY, y, z -> Texts.add(z, turns[2]));
            same("why", reasons(y), open ? "1 120 62 2" : "2 120 58 1");
            due("turns", y.told(1), 2);
            due("text", Texts.tell(y, Texts.of(open ? 3 : 2, turns)), -5);
            same("why of the text", reasons(y), open ? "1 120 62 2" : "2 120 58 1");
        }
    }

    private static void drop() {
        says(6, "NoSuchElementException: no such one");
        for (int k : new int[] {-1, 2, 3, 4, LEAST, MOST}) {
            refused("drop " + k, MISSING, x -> x.drop(k));
        }
        refused("drop 4 of four", MISSING, EdgesTest::four, x -> x.drop(4));
        refused("drop 0 of none", MISSING, DoubleTurns::new, x -> x.drop(0));
        says(6, "the k-th TOLD one goes");
        int[][][] turns = {{EIGHTH, I, THIRD, ONE}, {I, EIGHTH, THIRD, ONE}, {I, THIRD, EIGHTH, ONE}, {I, THIRD, ONE, EIGHTH}};
        for (int k = 0; k < 4; k++) {
            DoubleTurns x = of(2, turns[k]);
            due("before", x.told(2), 48);
            due("drop " + k, x.drop(k), 24);
            due("of order 8 behind drop " + k, x.ofOrder(8, 1), 0);
            due("turns", x.told(1), 3);
            due("the first one left", Texts.find(x, I), 1);
            due("the second one left", Texts.find(x, THIRD), 2);
        }
        says(6, "how many ELEMENTS: one, when the last one goes");
        DoubleTurns y = of(3, TWELFTH);
        due("drop", y.drop(0), 1);
        due("turns", y.told(1), 0);
        due("root", y.told(0), 3);
        due("minus", y.told(9), NONE);
    }

    private static void undo() {
        says(7, "NONE: none could");
        for (DoubleTurns x : new DoubleTurns[] {new DoubleTurns(), eight()}) {
            String before = whole(x);
            due("undo", x.undo(), NONE);
            same("undo changed something", whole(x), before);
            due("status", x.status(0) + x.status(1) + x.status(2), 0);
        }
        says(7, "the latest 8 can be taken back");
        DoubleTurns x = new DoubleTurns();
        int[][] turns = {I, J, MINUS, ONE};
        for (int[] t : turns) {
            Texts.add(x, t);
        }
        for (int n = 0; n < 4; n++) {
            x.drop(3 - n);
            due("acts", x.told(14), 5 + n);
        }
        Texts.add(x, THIRD);
        due("a ninth", x.told(14), 8);
        int[] counts = {1, 4, 8, 8, 8, 8, 8, 4};
        for (int n = 0; n < 8; n++) {
            due("undo", x.undo(), 7 - n);
            due("elements", x.told(2), counts[n]);
            due("turns", x.told(1), n < 5 ? n : 8 - n);
        }
        due("undo of the first one", x.undo(), NONE);
        due("turns", x.told(1), 1);
        due("i", Texts.find(x, I), 1);
        says(7, "how many still can: of acts behind undo(), too");
        due("add", Texts.add(x, J), 8);
        due("acts", x.told(14), 1);
        due("undo", x.undo(), 0);
        due("elements", x.told(2), 4);
    }

    private static void undoAll() {
        says(7, "all is as ahead of the latest add(), drop()");
        DoubleTurns x = octahedral();
        String before = seen(x);
        x.drop(0);
        due("undo", x.undo(), 0);
        same("behind drop", seen(x), before);
        Texts.add(x, J);
        due("undo", x.undo(), 0);
        same("behind add", seen(x), before);
        says(7, "the latest add(), drop(): refused ones are none");
        DoubleTurns y = busy();
        tried(() -> y.drop(-1));
        tried(() -> Texts.add(y, OPEN));
        tried(() -> y.add(5, 0, 0, 0, 0, 0, 0, 0));
        due("acts", y.told(14), 2);
        due("undo", y.undo(), 1);
        due("elements", y.told(2), 4);
        due("bytes", y.told(15), 20);
        due("status", y.status(0), 2);
        says(7, "nor is a text() with a FAULT, which keeps them");
        due("text", y.text(20), -9);
        due("acts", y.told(14), 1);
        due("undo", y.undo(), 0);
        due("elements", y.told(2), 1);
    }

    private static void why() {
        says(8, "0: 1 or 2, 1 how many ELEMENTS there were by then, 2 which of them was multiplied, 3 by which TOLD one");
        DoubleTurns x = new DoubleTurns();
        tried(() -> Texts.add(x, OPEN));
        same("alone", reasons(x), "1 2 1 0");
        DoubleTurns y = of(2, ONE, MINUS, ONE);
        tried(() -> Texts.add(y, OPEN));
        same("as the fourth", reasons(y), "1 4 2 3");
        says(8, "0 each: there was none");
        same("new", reasons(new DoubleTurns()), "0 0 0 0");
        says(8, "0 each: the latest add() was not refused so");
        DoubleTurns z = busy();
        Texts.add(z, ONE);
        same("not refused", reasons(z), "0 0 0 0");
        for (int[] t : new int[][] {{5, 0, 0, 0, 0, 0, 0, 0}, {1, 0, 0, 0, 0, 0, 0, 0}}) {
            DoubleTurns other = busy();
            tried(() -> Texts.add(other, t));
            same("refused as no turn", reasons(other), "0 0 0 0");
        }
        DoubleTurns four = of(2, I, J, MINUS);
        tried(() -> Texts.add(four, OPEN));
        same("three and one that does not close", reasons(four), "1 14 4 3");
        Texts.add(four, ONE);
        tried(() -> Texts.add(four, OPEN));
        same("there are four", reasons(four), "0 0 0 0");
        says(8, "0 each: the latest text() was not refused so");
        String[] texts = {"root 5;", "root", "root 7;", Texts.of(2, ONE, ONE, ONE, ONE, OPEN), "root 2;turn 1 0 0 0 0 0 0 0;"};
        int[] answers = {1, -9, -8, -7, -6};
        for (int i = 0; i < texts.length; i++) {
            DoubleTurns other = new DoubleTurns();
            due("text", Texts.tell(other, Texts.of(2, I, OPEN)), -5);
            same("of text", reasons(other), "1 6 2 1");
            due("text " + texts[i], Texts.tell(other, texts[i]), answers[i]);
            same("behind " + texts[i], reasons(other), "0 0 0 0");
        }
        DoubleTurns wrong = busy();
        tried(() -> wrong.text(21));
        same("refused by an exception", reasons(wrong), "0 0 0 0");
    }

    private static void whyStays() {
        says(8, "of the latest add() or text(): other calls leave it");
        DoubleTurns x = busy();
        String before = reasons(x);
        same("of busy", before, "1 11 3 2");
        x.feed(1, 2, 3, 4, 5);
        x.drop(0);
        same("drop", reasons(x), before);
        x.undo();
        x.undo();
        tried(() -> x.drop(7));
        tried(() -> x.axes(1));
        x.told(12);
        x.fault();
        same("others", reasons(x), before);
        says(8, "NONE: another what");
        for (int what : new int[] {-1, 4, 5, LEAST, MOST}) {
            due("why " + what, x.why(what), NONE);
        }
        says(8, "asked, nothing stays changed");
        DoubleTurns y = busy();
        String all = whole(y);
        same("asked again", whole(y), all);
        due("undo", y.undo(), 1);
        due("elements", y.told(2), 4);
    }

    private static void missing() {
        says(6, "NoSuchElementException: no such ELEMENT (so below)");
        for (int k : new int[] {-1, 8, 9, LEAST, MOST}) {
            refused("element " + k, MISSING, x -> x.element(k, 0));
            refused("product " + k, MISSING, x -> x.product(k, 0));
            refused("product by " + k, MISSING, x -> x.product(0, k));
            refused("power " + k, MISSING, x -> x.power(k, 0));
            refused("made " + k, MISSING, x -> x.made(k, 0, 0));
            refused("made with " + k, MISSING, x -> x.made(0, k, 0));
            refused("isMade " + k, MISSING, x -> x.isMade(k, 0, 0) ? 1 : 0);
            refused("isMade with " + k, MISSING, x -> x.isMade(0, k, 0) ? 1 : 0);
            refused("isMade of " + k, MISSING, x -> x.isMade(0, 0, k) ? 1 : 0);
            refused("isKept " + k, MISSING, x -> x.isKept(k, 0) ? 1 : 0);
            refused("isKept with " + k, MISSING, x -> x.isKept(0, k) ? 1 : 0);
        }
        says(6, "NoSuchElementException: no such CLASS, CHARACTER (so below)");
        for (int c : new int[] {-1, 5, 7, LEAST, MOST}) {
            refused("of " + c, MISSING, x -> x.of(c, 0));
            refused("couples " + c, MISSING, x -> x.couples(c, 0, 0));
            refused("couples with " + c, MISSING, x -> x.couples(0, c, 0));
            refused("couples of " + c, MISSING, x -> x.couples(0, 0, c));
            refused("degree " + c, MISSING, x -> x.degree(c));
            refused("value " + c, MISSING, x -> x.value(c, 0));
            refused("value at " + c, MISSING, x -> x.value(0, c));
            refused("often " + c, MISSING, x -> x.often(c, 0, 0));
            refused("often with " + c, MISSING, x -> x.often(0, c, 0));
            refused("often of " + c, MISSING, x -> x.often(0, 0, c));
            refused("opposite " + c, MISSING, x -> x.opposite(c));
            refused("ways " + c, MISSING, x -> x.ways(c, 0));
            refused("ways to " + c, MISSING, x -> x.ways(0, c));
            refused("far " + c, MISSING, x -> x.far(c, 0));
            refused("far to " + c, MISSING, x -> x.far(0, c));
            refused("inRow " + c, MISSING, x -> x.inRow(c, 0));
            refused("row " + c, MISSING, x -> x.row(c, 0));
        }
    }

    private static void missingAhead() {
        says(6, "NoSuchElementException: ahead of others");
        for (int wrong : new int[] {-1, LEAST, MOST}) {
            refused("element", MISSING, x -> x.element(8, wrong));
            refused("element", MISSING, x -> x.element(-1, wrong));
            refused("of", MISSING, x -> x.of(5, wrong));
            refused("inRow", MISSING, x -> x.inRow(5, wrong));
            refused("inRow", MISSING, x -> x.inRow(-1, wrong));
            refused("made", MISSING, x -> x.made(8, 0, wrong));
            refused("made", MISSING, x -> x.made(0, 8, wrong));
        }
        refused("row", MISSING, x -> x.row(5, -1));
        refused("power", MISSING, x -> x.power(8, LEAST));
        says(6, "no such ELEMENT: of the ELEMENTS that there are now");
        DoubleTurns x = eight();
        due("before", x.element(7, 8), 4);
        x.drop(1);
        refusedAlone("behind drop", MISSING, x, y -> y.element(4, 8));
        due("the last one", x.element(3, 8), 4);
        due("its class", x.of(3, 0), 1);
        refusedAlone("characters behind drop", MISSING, x, y -> y.degree(4));
        x.undo();
        due("behind undo", x.element(7, 8), 4);
        due("characters behind undo", x.degree(4), 2);
        refusedAlone("120 of 120", MISSING, icosahedral(), y -> y.element(120, 0));
        due("119 of 120", icosahedral().element(119, 9) >= 0 ? 1 : 0, 1);
    }

    private static void unfit() {
        says(5, "IllegalArgumentException: another argument; so below");
        for (int n : new int[] {LEAST, -7, -1, 16, 201, MOST}) {
            refused("told " + n, UNFIT, x -> x.told(n));
            refused("element " + n, UNFIT, x -> x.element(7, n));
            refused("of " + n, UNFIT, x -> x.of(4, n));
            refused("withWays " + n, UNFIT, x -> x.withWays(n));
            refused("made " + n, UNFIT, x -> x.made(7, 7, n));
            refused("ofOrder what " + n, UNFIT, x -> x.ofOrder(4, n));
            refused("makers " + n, UNFIT, x -> x.makers(n));
        }
        refused("element 11", UNFIT, x -> x.element(0, 11));
        refused("of 7", UNFIT, x -> x.of(0, 7));
        refused("withWays 5", UNFIT, x -> x.withWays(5));
        refused("made 2", UNFIT, x -> x.made(0, 0, 2));
        refused("ofOrder what 2", UNFIT, x -> x.ofOrder(4, 2));
        refused("makers 2", UNFIT, x -> x.makers(2));
        for (int n : new int[] {LEAST, -1, 0, 121, 201, MOST}) {
            refused("axes " + n, UNFIT, x -> x.axes(n));
            refused("ofOrder " + n, UNFIT, x -> x.ofOrder(n, 0));
            refused("ofOrder " + n, UNFIT, x -> x.ofOrder(n, 1));
        }
        refused("axes 1", UNFIT, x -> x.axes(1));
        refused("ofOrder both", UNFIT, x -> x.ofOrder(0, 2));
        for (int n : new int[] {LEAST, -1, 201, MOST}) {
            refused("invariants " + n, UNFIT, x -> x.invariants(n));
            refused("inRow " + n, UNFIT, x -> x.inRow(4, n));
        }
    }

    private static void lastOnes() {
        says(6, "the last ELEMENT, CLASS, CHARACTER is there");
        DoubleTurns x = busy();
        due("element", x.element(7, 4), -4);
        due("product", x.product(7, 7), 3);
        due("power", x.power(7, 1), 7);
        due("of", x.of(4, 0), 2);
        due("couples", x.couples(4, 4, 4), 0);
        due("degree", x.degree(4), 2);
        due("value", x.value(4, 4), 0);
        due("often", x.often(4, 4, 4), 0);
        due("opposite", x.opposite(4), 4);
        due("ways", x.ways(4, 4), 0);
        due("far", x.far(4, 4), 0);
        due("inRow", x.inRow(4, 1), 1);
        due("row", x.row(4, 0), 1);
        due("made", x.made(7, 7, 0), 4);
        due("isMade", x.isMade(7, 7, 7) ? 1 : 0, 1);
        due("isKept", x.isKept(7, 7) ? 1 : 0, 1);
        says(5, "the first and the last argument that are no other ones");
        due("told", x.told(0), 2);
        due("told", x.told(15), 20);
        due("element", x.element(7, 0), 0);
        due("element", x.element(7, 10), 2);
        due("of", x.of(4, 6), 0);
        due("axes", x.axes(2), 3);
        due("axes", x.axes(120), 0);
        due("withWays", x.withWays(0), 0);
        due("withWays", x.withWays(4), 1);
        due("invariants", x.invariants(0), 1);
        due("invariants", x.invariants(200), 51);
        due("inRow", x.inRow(4, 0), 0);
        due("inRow", x.inRow(0, 200), 0);
        due("made", x.made(7, 7, 1), 1);
        due("ofOrder", x.ofOrder(1, 1), 1);
        due("ofOrder", x.ofOrder(120, 1), 0);
        due("ofOrder", x.ofOrder(120, 0), NONE);
        due("makers", x.makers(1), 2);
        due("text", x.text(20), -9);
        due("status", x.status(0) + 10 * x.status(1) + 100 * x.status(2), 121);
    }

    private static void noRefusals() {
        says(33, "calls that answer NONE are not refused");
        DoubleTurns x = busy();
        String before = whole(x);
        for (int n : new int[] {-1, 4, LEAST, MOST}) {
            due("why", x.why(n), NONE);
            due("status", x.status(n), NONE);
            due("find", x.find(n, n, n, n, n, n, n, n), NONE);
        }
        due("status", x.status(3), NONE);
        for (int k : new int[] {-1, LEAST, 201, MOST}) {
            due("row", x.row(0, k), NONE);
        }
        due("power", x.power(7, LEAST), 0);
        due("status", x.status(0) + 10 * x.status(1) + 100 * x.status(2), 121);
        same("something changed", whole(x), before);
    }

    private static void told() {
        says(9, "9 MINUS (its number; NONE)");
        due("three", of(2, ODD_THIRD).told(9), NONE);
        due("five", of(5, FIFTH).told(9), NONE);
        due("two", of(2, MINUS).told(9), 1);
        due("twelve", of(3, TWELFTH).told(9), 6);
        says(9, "8 TURNED: half of them with MINUS, else all");
        due("one", new DoubleTurns().told(8), 1);
        due("five", of(5, FIFTH).told(8), 5);
        due("two", of(2, MINUS).told(8), 1);
        due("120", icosahedral().told(8), 60);
        says(9, "4 ELEMENTS of the CENTRE");
        due("one", new DoubleTurns().told(4), 1);
        due("twelve: all", of(3, TWELFTH).told(4), 12);
        due("120: two", icosahedral().told(4), 2);
        says(9, "14 how many acts can be taken back, 15 bytes of the TAPE");
        DoubleTurns x = new DoubleTurns();
        for (int n = 1; n <= 10; n++) {
            if (n % 2 == 1) {
                Texts.add(x, ONE);
            } else {
                x.drop(0);
            }
            due("acts", x.told(14), Math.min(n, 8));
        }
        for (int n = 1; n <= 21; n++) {
            x.feed(0, 0, 0, 0, 0);
            due("bytes", x.told(15), Math.min(20 * n, 400));
        }
    }

    private static void prime(DoubleTurns x, int p, int s) {
        due("P of " + x.told(2) + " elements, root " + x.told(0), x.told(10), p);
        due("S of " + x.told(2) + " elements, root " + x.told(0), x.told(11), s);
    }

    private static void prime() {
        says(9, "P: the least prime above twice the number of ELEMENTS, by which there is a number s from 1 to P less 1");
        // 3 is not above twice 1, and 0 is no such s of root 3 by 3, of root 5 by 5
        prime(of(2), 7, 3);
        prime(of(3), 11, 5);
        prime(of(5), 11, 4);
        prime(of(5, MINUS), 11, 4);
        prime(of(3, MINUS), 11, 5);
        says(9, "P: one more than a multiple of EXPONENT");
        prime(of(2, ODD_THIRD), 7, 3);
        prime(of(3, ODD_THIRD), 13, 4);
        prime(of(2, I), 17, 6);
        prime(of(3, I), 13, 4);
        prime(of(5, I), 29, 11);
        prime(of(5, FIFTH), 11, 4);
        prime(of(3, TWELFTH), 37, 15);
        says(9, "P: above twice the number: one above, too");
        prime(icosahedral(), 241, 103);
        prime(octahedral(), 97, 14);
    }

    private static void kind(DoubleTurns x, int kind, int n) {
        due("KIND of " + x.told(2) + " elements", x.told(6), kind);
        due("N of " + x.told(2) + " elements", x.told(7), n);
    }

    private static void kind() {
        says(9, "KIND: 0 CYCLIC (some ELEMENT has as its ORDER how many there are)");
        kind(new DoubleTurns(), 0, 1);
        kind(of(2, MINUS), 0, 2);
        kind(of(2, ODD_THIRD), 0, 3);
        kind(of(2, I), 0, 4);
        kind(of(5, FIFTH, MINUS), 0, 10);
        kind(of(3, TWELFTH), 0, 12);
        kind(of(2, MINUS, ODD_THIRD), 0, 6);
        says(9, "KIND: 1 BINARY DIHEDRAL (not so; some ELEMENT has half of them as its ORDER)");
        kind(eight(), 1, 2);
        kind(of(2, EIGHTH, J), 1, 4);
        kind(of(3, TWELFTH, J), 1, 6);
        says(9, "KIND: 2, 3, 4 BINARY TETRAHEDRAL, OCTAHEDRAL, ICOSAHEDRAL (24, 48, 120; N 3, 4, 5)");
        kind(tetrahedral(), 2, 3);
        kind(octahedral(), 3, 4);
        kind(icosahedral(), 4, 5);
        due("as many as the dihedral ones", of(3, TWELFTH, J).told(2), tetrahedral().told(2));
    }

    private static void element() {
        says(10, "8 ORDER: the least n above 0");
        due("of 0", new DoubleTurns().element(0, 8), 1);
        due("of minus", of(2, MINUS).element(1, 8), 2);
        due("of the twelfth", of(3, TWELFTH).element(1, 8), 12);
        says(10, "9 INVERSE: its own");
        due("of 0", eight().element(0, 9), 0);
        due("of minus", eight().element(3, 9), 3);
        says(10, "10 its CLASS: numbered by their least ELEMENTS, from 0 on");
        due("of 0", octahedral().element(0, 10), 0);
        DoubleTurns x = octahedral();
        int classes = 0;
        for (int k = 0; k < 48; k++) {
            int cls = x.element(k, 10);
            due("no class is left out at " + k, cls <= classes ? 1 : 0, 1);
            classes = Math.max(classes, cls + 1);
        }
        due("classes", classes, x.told(3));
    }

    private static void find() {
        says(11, "NONE: none");
        DoubleTurns x = eight();
        for (int n : new int[] {0, 3, 5, 8, -12, 20, 260, 65540, -4 + (1 << 30), LEAST + 4, MOST}) {
            due("find " + n, x.find(n, 0, 0, 0, 0, 0, 0, 0), NONE);
            due("find " + n, x.find(0, 0, 0, 0, 0, 0, n, 0), NONE);
            due("find with " + n, n == 0 ? NONE : x.find(4, n, 0, 0, 0, 0, 0, 0), NONE);
            due("find with " + n, n == 0 ? NONE : x.find(4, 0, 0, 0, 0, 0, 0, n), NONE);
        }
        due("the first", x.find(4, 0, 0, 0, 0, 0, 0, 0), 0);
        due("the last", x.find(0, 0, 0, 0, -4, 0, 0, 0), 7);
        due("a turn of the root before", of(3).find(0, 2, 0, 2, 0, 0, 0, 0), NONE);
    }

    private static void power() {
        says(13, "any n; below 0: of its INVERSE");
        DoubleTurns x = of(2, ODD_THIRD);
        int[] powers = {0, 1, 2};
        for (int n : new int[] {0, 1, 2, 3, -1, -2, -3, MOST, MOST - 1, LEAST, LEAST + 1, 1000000007}) {
            due("power " + n, x.power(1, n), powers[Math.floorMod(n, 3)]);
            due("power of the inverse " + n, x.power(2, n), powers[(3 - Math.floorMod(n, 3)) % 3]);
            due("power of 0 " + n, x.power(0, n), 0);
        }
        DoubleTurns y = of(5, FIFTH);
        for (int n : new int[] {5, -5, MOST, LEAST, LEAST + 1}) {
            due("power " + n, y.power(1, n), y.power(1, Math.floorMod(n, 5)));
        }
        due("power -1", y.power(1, -1), y.element(1, 9));
    }

    private static void axes() {
        says(16, "AXES about which just n of the TURNED go");
        DoubleTurns x = octahedral();
        int[] want = {0, 0, 6, 4, 3, 0, 0};
        for (int n = 2; n < want.length; n++) {
            due("axes " + n, x.axes(n), want[n]);
        }
        says(16, "AXES of n (2 to 120): none, if all TURNED are one");
        for (int n = 2; n <= 120; n++) {
            due("axes " + n, n % 2 == 0 ? new DoubleTurns().axes(n) : of(2, MINUS).axes(n), 0);
        }
        says(16, "AXES: couples of opposite directions, one of all elements, without MINUS, too");
        due("five", of(5, FIFTH).axes(5), 1);
        due("ten", of(5, FIFTH, MINUS).axes(5), 1);
        due("ten", of(5, FIFTH, MINUS).axes(10), 0);
        due("twelve", of(3, TWELFTH).axes(6), 1);
    }

    private static void characters() {
        says(17, "DEGREE: from 1 on; that CHARACTER which is 1 everywhere comes first of all");
        for (DoubleTurns x : new DoubleTurns[] {new DoubleTurns(), of(2, MINUS), of(3, TWELFTH), tetrahedral(), icosahedral()}) {
            for (int c = 0; c < x.told(3); c++) {
                due("value at " + c, x.value(0, c), 1);
            }
            due("degree 0", x.degree(0), 1);
            due("opposite 0", x.opposite(0), 0);
        }
        says(18, "modulo P, 0 to P less 1");
        DoubleTurns x = icosahedral();
        for (int h = 0; h < 9; h++) {
            for (int c = 0; c < 9; c++) {
                due("value " + h + " " + c, x.value(h, c) >= 0 && x.value(h, c) <= 240 ? 1 : 0, 1);
            }
        }
        due("-1 is P less 1", of(2, MINUS).value(1, 1), 6);
        says(14, "4 NATURAL, modulo P: of element 0, of MINUS, of none");
        due("of 0", eight().of(0, 4), 2);
        due("of minus", eight().of(3, 4), 15);
        due("of i", eight().of(1, 4), 0);
        says(19, "HOW OFTEN: a count, none or more than one, too");
        due("often 8 8 8", x.often(8, 8, 8), 0);
        due("often 7 8 8", x.often(7, 8, 8), 3);
        due("often 0 0 0", new DoubleTurns().often(0, 0, 0), 1);
    }

    private static void graph() {
        says(21, "a CHARACTER to itself; of one, two CHARACTERS, too");
        due("ways of one", new DoubleTurns().ways(0, 0), 2);
        due("ways of two", of(2, MINUS).ways(0, 1), 2);
        due("ways of two, back", of(2, MINUS).ways(1, 0), 2);
        due("ways of two, itself", of(2, MINUS).ways(0, 0), 0);
        due("ways of three", of(2, ODD_THIRD).ways(1, 2), 1);
        says(9, "12 DIAGRAM: 0 a RING (so of one, two CHARACTERS, too)");
        due("one", new DoubleTurns().told(12), 0);
        due("two", of(2, MINUS).told(12), 0);
        due("three", of(2, ODD_THIRD).told(12), 0);
        due("twelve", of(3, TWELFTH).told(12), 0);
        says(9, "12 DIAGRAM: 1 a FORK (four have one way alone), 2 a STAR (three have)");
        due("eight: both ends are one", eight().told(12), 1);
        due("twenty-four", of(3, TWELFTH, J).told(12), 1);
        due("tetrahedral", tetrahedral().told(12), 2);
        due("icosahedral", icosahedral().told(12), 2);
        says(9, "13 RANK: CHARACTERS less 1");
        due("one", new DoubleTurns().told(13), 0);
        due("twelve", of(3, TWELFTH).told(13), 11);
        says(22, "to another one (or itself)");
        due("itself, one", new DoubleTurns().far(0, 0), 0);
        due("itself", icosahedral().far(8, 8), 0);
        due("two", of(2, MINUS).far(0, 1), 1);
        DoubleTurns ring = of(3, TWELFTH);
        int farthest = 0;
        for (int c = 0; c < 12; c++) {
            farthest = Math.max(farthest, ring.far(0, c));
            due("there and back", ring.far(c, 0), ring.far(0, c));
        }
        due("the farthest of a ring of twelve", farthest, 6);
        due("the farthest of a star", Math.max(icosahedral().far(0, 1), icosahedral().far(0, 2)), 7);
        says(23, "so many ways in all (0 to 4; to itself counted as it is told)");
        int[][] want = {{0, 0, 1, 0, 0}, {0, 0, 2, 0, 0}, {0, 4, 0, 0, 1}, {0, 3, 3, 1, 0}};
        DoubleTurns[] objects = {new DoubleTurns(), of(2, MINUS), eight(), tetrahedral()};
        for (int i = 0; i < objects.length; i++) {
            for (int n = 0; n <= 4; n++) {
                due("withWays " + n + " of " + objects[i].told(2), objects[i].withWays(n), want[i][n]);
            }
        }
    }

    private static void rows() {
        says(24, "INVARIANTS of a degree (0 to 200), reckoned exactly (not modulo P)");
        due("degree 0", icosahedral().invariants(0), 1);
        due("degree 1", icosahedral().invariants(1), 0);
        due("degree 200", new DoubleTurns().invariants(200), 201);
        due("degree 199", new DoubleTurns().invariants(199), 200);
        due("degree 200 of three", of(2, ODD_THIRD).invariants(200), 67);
        due("degree 200 of minus", of(2, MINUS).invariants(200), 201);
        says(25, "row k of POWERS (0 to 200), modulo P");
        due("row 0", eight().inRow(0, 0), 1);
        due("row 1", eight().inRow(4, 1), 1);
        due("row 200", new DoubleTurns().inRow(0, 200), 5);
        due("row 195 is 196", new DoubleTurns().inRow(0, 195), 0);
        due("row 200 of three", of(2, ODD_THIRD).inRow(0, 200), 67 % 7);
        due("row 200 of eight", eight().inRow(0, 200), 51 % 17);
        says(26, "the k-th (0 on); NONE: there are not so many, or k is below 0");
        DoubleTurns x = new DoubleTurns();
        due("the first", x.row(0, 0), 0);
        due("the last", x.row(0, 172), 200);
        due("one more", x.row(0, 173), NONE);
        due("most", x.row(0, MOST), NONE);
        due("below", x.row(0, -1), NONE);
        due("least", x.row(0, LEAST), NONE);
        DoubleTurns y = of(2, MINUS);
        due("the first of the odd one", y.row(1, 0), 1);
        due("the last of the odd one", y.row(1, 85), 199);
        due("one more of the odd one", y.row(1, 86), NONE);
        says(26, "not 0 modulo P");
        due("row 6 is left out", x.row(0, 6), 7);
        due("of minus, row 13 is left out", y.row(1, 5), 11);
        due("of minus, row 13 is left out", y.row(1, 6), 15);
    }

    private static void made() {
        says(27, "two ELEMENTS (alike ones, too)");
        DoubleTurns x = eight();
        due("0, 0", x.made(0, 0, 0), 1);
        due("3, 3", x.made(3, 3, 0), 2);
        due("7, 7", x.made(7, 7, 0), 4);
        due("1, 7", x.made(1, 7, 0), 8);
        says(27, "the least ELEMENT that is not in it (NONE: all are)");
        due("0, 0", x.made(0, 0, 1), 1);
        due("1, 1", x.made(1, 1, 1), 2);
        due("2, 1", x.made(2, 1, 1), NONE);
        due("of one element", new DoubleTurns().made(0, 0, 1), NONE);
        says(28, "whether an ELEMENT is in that group: 0 is in each");
        due("0", x.isMade(7, 7, 0) ? 1 : 0, 1);
        due("of 0 and 0", x.isMade(0, 0, 0) ? 1 : 0, 1);
        due("another of 0 and 0", x.isMade(0, 0, 1) ? 1 : 0, 0);
        due("the last", x.isMade(2, 2, 7) ? 1 : 0, 1);
        says(29, "that group: of one ELEMENT, of all");
        DoubleTurns y = tetrahedral();
        due("0, 0", y.isKept(0, 0) ? 1 : 0, 1);
        due("all", y.isKept(1, 2) ? 1 : 0, 1);
        due("i alone", y.isKept(1, 1) ? 1 : 0, 0);
        due("i and 0", y.isKept(0, 1) ? 1 : 0, 0);
        due("of one element", new DoubleTurns().isKept(0, 0) ? 1 : 0, 1);
    }

    private static void orders() {
        says(30, "the ELEMENT of an ORDER (1 to 120) with the least number; NONE: there is none; how many there are");
        DoubleTurns x = of(3, TWELFTH);
        int[] least = {NONE, 0, 6, 4, 3, NONE, 2, NONE, NONE, NONE, NONE, NONE, 1, NONE};
        int[] count = {0, 1, 1, 2, 2, 0, 2, 0, 0, 0, 0, 0, 4, 0};
        for (int order = 1; order < least.length; order++) {
            due("least of order " + order, x.ofOrder(order, 0), least[order]);
            due("count of order " + order, x.ofOrder(order, 1), count[order]);
        }
        due("120, where there are 120", icosahedral().ofOrder(120, 0), NONE);
        due("120, where there are 120", icosahedral().ofOrder(120, 1), 0);
        says(31, "the first such (the first one first, then the second)");
        due("one element", new DoubleTurns().makers(0), 0);
        due("one element", new DoubleTurns().makers(1), 0);
        due("with 0", x.makers(0), 0);
        due("with 0", x.makers(1), 1);
        DoubleTurns y = of(2, MINUS, J, I);
        due("the first", y.makers(0), 2);
        due("the second", y.makers(1), 3);
        due("the second, asked first", tetrahedral().makers(1), 2);
    }

    private static void print() {
        says(32, "31 times what there is: around the end of a long");
        for (DoubleTurns x : new DoubleTurns[] {new DoubleTurns(), eight(), octahedral(), icosahedral()}) {
            BigInteger print = BigInteger.ZERO;
            for (int k = 0; k < x.told(2); k++) {
                for (int what : new int[] {8, 10}) {
                    print = print.multiply(BigInteger.valueOf(31)).add(BigInteger.valueOf(x.element(k, what)));
                }
            }
            due("print of " + x.told(2), x.print(), print.longValue());
        }
    }

    private static void status() {
        says(33, "how many calls were refused");
        DoubleTurns x = new DoubleTurns();
        for (int n = 1; n <= 60; n++) {
            tried(() -> x.drop(0));
            tried(() -> x.axes(1));
            tried(() -> Texts.add(x, OPEN));
            tried(() -> x.text(1));
            tried(() -> x.element(1, 11));
            due("missing", x.status(0), 2 * n);
        }
        due("unfit", x.status(1), 120);
        due("untimely", x.status(2), 60);
        says(33, "NONE for others");
        for (int what : new int[] {-1, 3, 4, LEAST, MOST}) {
            due("status " + what, x.status(what), NONE);
        }
        says(33, "refused: by an exception, not by a FAULT or NONE");
        DoubleTurns y = new DoubleTurns();
        Texts.tell(y, "root 2;turn");
        Texts.tell(y, Texts.of(2, OPEN));
        y.undo();
        y.row(0, -1);
        y.why(9);
        due("status", y.status(0) + y.status(1) + y.status(2), 0);
    }
}
