import java.util.NoSuchElementException;

/**
 * Groups of turns, each turn in its two quaternions, exact. What each call
 * promises stands in shared/DOC.md; its words in capitals stand here in small
 * letters.
 */
public final class DoubleTurns {
    public static final int NONE = -1;

    private static final int FIRST_ROOT = 2;
    private static final int NUMBERS = 8;
    private static final int WHOLE = 4;
    private static final int HIGHEST_TOLD = 4;
    private static final int MOST_TOLD = 4;
    private static final int MOST_ELEMENTS = 120;
    // A cosine that is a quarter leaves no order above 12: a group that closes
    // is cyclic of 12 at most, or one of the others, of nine classes at most.
    private static final int MOST_CLASSES = 12;
    private static final int MOST_BYTES = 400;
    private static final int FED_BYTES = 20;
    private static final int MOST_TAKEN_BACK = 8;
    private static final int HIGHEST_ROW = 200;
    private static final int HIGHEST_DEGREE = 10;
    private static final int MOST_WAYS = 4;
    // Far above what any group here needs (241 at most).
    private static final int HIGHEST_PRIME = 10000;

    private static final int NOT_QUARTERS = 1;
    private static final int TOO_MANY = 2;

    private static final int WRONG_SIGN = 1;
    private static final int WRONG_NUMBER = 2;
    private static final int FIFTH_TURN = 3;
    private static final int NO_TURN = 4;
    private static final int NOT_CLOSED = 5;
    private static final int FAULT_BELOW = 10;

    private static final int CYCLIC = 0;
    private static final int BINARY_DIHEDRAL = 1;
    private static final int BINARY_TETRAHEDRAL = 2;
    private static final int BINARY_OCTAHEDRAL = 3;
    private static final int BINARY_ICOSAHEDRAL = 4;

    private static final int RING = 0;
    private static final int FORK = 1;
    private static final int STAR = 2;

    private static final int MISSING = 0;
    private static final int UNFIT = 1;
    private static final int UNTIMELY = 2;

    // Part c of a product takes part i of the first turn with part i ^ c of the
    // second one; the sign of that stands at 4 c + i.
    private static final int[] SIGNS = {1, -1, -1, -1, 1, 1, 1, -1, 1, -1, 1, 1, 1, 1, -1, 1};

    private final Tape tape = new Tape();
    private final Reader reader = new Reader(tape);
    private final Past past = new Past();
    private final Group group = new Group();
    private final Subgroup subgroup = new Subgroup();
    private final Characters characters = new Characters();
    private final Splitting splitting = new Splitting(characters.field);
    private final Graph graph = new Graph();
    private final Powers powers = new Powers();
    private final int[] asked = new int[NUMBERS];
    private final int[] reasons = new int[4];
    private final int[] refusals = new int[3];
    private Closing closing = new Closing();
    private Closing trial = new Closing();
    private boolean charactersStand;
    private boolean makersStand;
    private int faultPlace = NONE;

    public DoubleTurns() {
        closing.begin(FIRST_ROOT);
        closing.close();
        group.build(closing);
    }

    public int feed(int a, int b, int c, int d, int e) {
        if (!tape.hasRoom()) {
            return NONE;
        }
        tape.take(a);
        tape.take(b);
        tape.take(c);
        tape.take(d);
        tape.take(e);
        return tape.count;
    }

    public int text(int n) throws IllegalArgumentException {
        forgetReasons();
        needBetween(n, 0, tape.count);
        boolean good = reader.read(n, trial);
        tape.clear();
        faultPlace = reader.faultPlace;
        if (!good) {
            if (reader.fault == NOT_CLOSED) {
                keepReasons();
            }
            return reader.fault - FAULT_BELOW;
        }
        past.clear();
        takeTrial();
        return closing.count;
    }

    public int fault() {
        return faultPlace;
    }

    public int add(int wa, int wb, int xa, int xb, int ya, int yb, int za, int zb)
            throws IllegalArgumentException, IllegalStateException {
        forgetReasons();
        askHalf(0, wa, wb, xa, xb);
        askHalf(4, ya, yb, za, zb);
        if (!canBeTold(asked) || !isTurn(asked, closing.root)) {
            refusals[UNFIT]++;
            throw new IllegalArgumentException("no turn");
        }
        if (closing.toldCount >= MOST_TOLD) {
            refusals[UNTIMELY]++;
            throw new IllegalStateException("there are four");
        }
        trial.copyTold(closing);
        trial.tell(asked, 0);
        if (!trial.close()) {
            keepReasons();
            refusals[UNTIMELY]++;
            throw new IllegalStateException("it does not close");
        }
        past.keep(closing);
        takeTrial();
        return closing.count;
    }

    public int drop(int k) throws NoSuchElementException {
        needIndex(k, closing.toldCount);
        past.keep(closing);
        trial.begin(closing.root);
        for (int t = 0; t < closing.toldCount && t < MOST_TOLD; t++) {
            if (t != k) {
                trial.tell(closing.toldNumbers, t * NUMBERS);
            }
        }
        trial.close();
        takeTrial();
        return closing.count;
    }

    public int undo() {
        if (past.count < 1) {
            return NONE;
        }
        trial.begin(closing.root);
        past.giveBack(trial);
        trial.close();
        takeTrial();
        return past.count;
    }

    public int why(int what) {
        return what >= 0 && what < reasons.length ? reasons[what] : NONE;
    }

    public int told(int what) throws IllegalArgumentException {
        needBetween(what, 0, 15);
        if (what >= 10 && what <= 13) {
            needCharacters();
        }
        switch (what) {
            case 0: return closing.root;
            case 1: return closing.toldCount;
            case 2: return group.count;
            case 3: return group.classes;
            case 4: return group.central;
            case 5: return group.exponent;
            case 6: return group.kind();
            case 7: return group.kindNumber();
            case 8: return group.count / group.halves();
            case 9: return group.minus;
            case 10: return characters.field.prime;
            case 11: return characters.field.root;
            case 12: return graph.diagram();
            case 13: return characters.count - 1;
            case 14: return past.count;
            default: return tape.count;
        }
    }

    public int element(int k, int what) throws NoSuchElementException, IllegalArgumentException {
        needIndex(k, group.count);
        needBetween(what, 0, 10);
        switch (what) {
            case 8: return at(group.orders, k);
            case 9: return at(group.inverses, k);
            case 10: return at(group.classOf, k);
            default: return at(closing.numbers, k * NUMBERS + what);
        }
    }

    public int find(int wa, int wb, int xa, int xb, int ya, int yb, int za, int zb) {
        askHalf(0, wa, wb, xa, xb);
        askHalf(4, ya, yb, za, zb);
        return closing.numberOf(asked);
    }

    public int product(int k, int l) throws NoSuchElementException {
        needIndex(k, group.count);
        needIndex(l, group.count);
        return group.times(k, l);
    }

    public int power(int k, int n) throws NoSuchElementException {
        needIndex(k, group.count);
        int order = at(group.orders, k);
        int left = order < 1 ? 0 : Math.floorMod(n, order);
        int power = 0;
        for (int i = 0; i < left; i++) {
            power = group.times(power, k);
        }
        return power;
    }

    public int of(int cls, int what) throws NoSuchElementException, IllegalArgumentException {
        needIndex(cls, group.classes);
        needBetween(what, 0, 6);
        if (what == 4) {
            needCharacters();
        }
        int least = at(group.leasts, cls);
        switch (what) {
            case 0: return at(group.sizes, cls);
            case 1: return least;
            case 2: return at(group.orders, least);
            case 3: return group.inverseClass(cls);
            case 4: return at(characters.natural, cls);
            case 5: return at(closing.numbers, least * NUMBERS);
            default: return at(closing.numbers, least * NUMBERS + 1);
        }
    }

    public int couples(int a, int b, int c) throws NoSuchElementException {
        needIndex(a, group.classes);
        needIndex(b, group.classes);
        needIndex(c, group.classes);
        return group.countCouples(a, b, c);
    }

    public int axes(int n) throws IllegalArgumentException {
        needBetween(n, 2, MOST_ELEMENTS);
        return group.countAxes(n);
    }

    public int degree(int character) throws NoSuchElementException {
        needCharacters();
        needIndex(character, characters.count);
        return at(characters.degrees, character);
    }

    public int value(int character, int cls) throws NoSuchElementException {
        needCharacters();
        needIndex(character, characters.count);
        needIndex(cls, group.classes);
        return at(characters.values[character], cls);
    }

    public int often(int a, int b, int in) throws NoSuchElementException {
        needCharacters();
        needIndex(a, characters.count);
        needIndex(b, characters.count);
        needIndex(in, characters.count);
        return characters.inProduct(characters.values[a], characters.values[b], in);
    }

    public int opposite(int character) throws NoSuchElementException {
        needCharacters();
        needIndex(character, characters.count);
        return characters.oppositeOf(character);
    }

    public int ways(int a, int b) throws NoSuchElementException {
        needCharacters();
        needIndex(a, graph.count);
        needIndex(b, graph.count);
        return at(graph.lines[a], b);
    }

    public int far(int a, int b) throws NoSuchElementException {
        needCharacters();
        needIndex(a, graph.count);
        needIndex(b, graph.count);
        return at(graph.distances[a], b);
    }

    public int withWays(int n) throws IllegalArgumentException {
        needBetween(n, 0, MOST_WAYS);
        needCharacters();
        return graph.countWith(n);
    }

    public int invariants(int degree) throws IllegalArgumentException {
        needBetween(degree, 0, HIGHEST_ROW);
        return powers.countInvariants(group, closing, degree);
    }

    public int inRow(int character, int k) throws NoSuchElementException, IllegalArgumentException {
        needCharacters();
        needIndex(character, characters.count);
        needBetween(k, 0, HIGHEST_ROW);
        return powers.oftenInRow(characters, character, k);
    }

    public int row(int character, int k) throws NoSuchElementException {
        needCharacters();
        needIndex(character, characters.count);
        return powers.rowWith(characters, character, k);
    }

    public int made(int k, int l, int what) throws NoSuchElementException, IllegalArgumentException {
        needIndex(k, group.count);
        needIndex(l, group.count);
        needBetween(what, 0, 1);
        subgroup.make(group, k, l);
        return what == 0 ? subgroup.count : subgroup.leastBeside(group.count);
    }

    public boolean isMade(int k, int l, int element) throws NoSuchElementException {
        needIndex(k, group.count);
        needIndex(l, group.count);
        needIndex(element, group.count);
        subgroup.make(group, k, l);
        return subgroup.holds(element);
    }

    public boolean isKept(int k, int l) throws NoSuchElementException {
        needIndex(k, group.count);
        needIndex(l, group.count);
        subgroup.make(group, k, l);
        return subgroup.holdsTurned(group, k) && subgroup.holdsTurned(group, l);
    }

    public int ofOrder(int order, int what) throws IllegalArgumentException {
        needBetween(order, 1, MOST_ELEMENTS);
        needBetween(what, 0, 1);
        return what == 0 ? group.leastOfOrder(order) : group.countOfOrder(order);
    }

    public int makers(int what) throws IllegalArgumentException {
        needBetween(what, 0, 1);
        if (!makersStand) {
            subgroup.searchMakers(group);
            makersStand = true;
        }
        return what == 0 ? subgroup.firstMaker : subgroup.secondMaker;
    }

    public long print() {
        long print = 0;
        for (int k = 0; k < group.count; k++) {
            print = 31 * print + at(group.orders, k);
            print = 31 * print + at(group.classOf, k);
        }
        return print;
    }

    public int status(int what) {
        return what >= 0 && what < refusals.length ? refusals[what] : NONE;
    }

    private void needIndex(int k, int count) throws NoSuchElementException {
        if (k < 0 || k >= count) {
            refusals[MISSING]++;
            throw new NoSuchElementException("no such one");
        }
    }

    private void needBetween(int n, int least, int most) throws IllegalArgumentException {
        if (n < least || n > most) {
            refusals[UNFIT]++;
            throw new IllegalArgumentException("another argument");
        }
    }

    private void askHalf(int from, int a, int b, int c, int d) {
        if (from >= 0 && from + 3 < asked.length) {
            asked[from] = a;
            asked[from + 1] = b;
            asked[from + 2] = c;
            asked[from + 3] = d;
        }
    }

    private void forgetReasons() {
        for (int i = 0; i < reasons.length; i++) {
            reasons[i] = 0;
        }
    }

    private void keepReasons() {
        reasons[0] = trial.failure;
        reasons[1] = trial.count;
        reasons[2] = trial.failedElement;
        reasons[3] = trial.failedTold;
    }

    private void takeTrial() {
        Closing last = closing;
        closing = trial;
        trial = last;
        group.build(closing);
        charactersStand = false;
        makersStand = false;
    }

    // Characters and graph are made only when asked for: many turns come and go unasked.
    private void needCharacters() {
        if (charactersStand) {
            return;
        }
        characters.begin(group, closing);
        splitting.begin(group);
        for (int cls = 1; cls < splitting.count; cls++) {
            splitting.splitBy(cls);
        }
        characters.take(splitting.rows);
        graph.build(characters);
        charactersStand = true;
    }

    private static int at(int[] row, int place) {
        return place >= 0 && place < row.length ? row[place] : 0;
    }

    private static boolean canBeTold(int[] turn) {
        for (int i = 0; i < turn.length; i++) {
            if (turn[i] < -HIGHEST_TOLD || turn[i] > HIGHEST_TOLD) {
                return false;
            }
        }
        return true;
    }

    private static boolean isTurn(int[] turn, int root) {
        int squares = 0;
        int mixed = 0;
        for (int i = 0; i + 1 < turn.length; i += 2) {
            squares += turn[i] * turn[i] + root * turn[i + 1] * turn[i + 1];
            mixed += turn[i] * turn[i + 1];
        }
        return squares == WHOLE * WHOLE && mixed == 0;
    }

    /** Bytes that have come and were not read yet. */
    private static final class Tape {
        final byte[] bytes = new byte[MOST_BYTES];
        int count;

        boolean hasRoom() {
            return count + FED_BYTES <= MOST_BYTES;
        }

        void take(int number) {
            for (int shift = 24; shift >= 0; shift -= 8) {
                if (count < bytes.length) {
                    bytes[count] = (byte) (number >> shift);
                    count++;
                }
            }
        }

        void clear() {
            count = 0;
        }
    }

    /** Reads a text from the left to its first fault. */
    private static final class Reader {
        final Tape tape;
        final int[] turn = new int[NUMBERS];
        int length;
        int place;
        int fault;
        int faultPlace;

        Reader(Tape tape) {
            this.tape = tape;
        }

        boolean read(int n, Closing into) {
            length = n;
            place = 0;
            fault = 0;
            faultPlace = NONE;
            if (!readWord("root") || !readRoot(into) || !readSign(';')) {
                return false;
            }
            into.close();
            for (int turns = 0; turns <= MOST_TOLD; turns++) {
                skipBlanks();
                if (place >= length) {
                    return true;
                }
                if (!readTurn(into)) {
                    return false;
                }
            }
            return true;
        }

        private boolean readRoot(Closing into) {
            skipBlanks();
            int start = place;
            int root = readNumber();
            if (root == NONE) {
                return false;
            }
            if (root != 2 && root != 3 && root != 5) {
                return fail(WRONG_NUMBER, start);
            }
            into.begin(root);
            return true;
        }

        private boolean readTurn(Closing into) {
            int start = place;
            if (!readWord("turn")) {
                return false;
            }
            if (into.toldCount >= MOST_TOLD) {
                return fail(FIFTH_TURN, start);
            }
            for (int i = 0; i < turn.length; i++) {
                if (!readTold(i)) {
                    return false;
                }
            }
            if (!readSign(';')) {
                return false;
            }
            if (!isTurn(turn, into.root)) {
                return fail(NO_TURN, start);
            }
            into.tell(turn, 0);
            return into.close() || fail(NOT_CLOSED, start);
        }

        private boolean readTold(int i) {
            skipBlanks();
            int start = place;
            boolean below = here() == '-';
            if (below) {
                place++;
            }
            int number = readNumber();
            if (number == NONE) {
                return false;
            }
            if (number > HIGHEST_TOLD) {
                return fail(WRONG_NUMBER, start);
            }
            if (i >= 0 && i < turn.length) {
                turn[i] = below ? -number : number;
            }
            return true;
        }

        // What is longer than any number that is told stays at a thousand or more.
        private int readNumber() {
            skipBlanks();
            if (!isDigit(here())) {
                fail(WRONG_SIGN, place);
                return NONE;
            }
            int number = 0;
            while (place < length && isDigit(here())) {
                if (number < 1000) {
                    number = 10 * number + here() - '0';
                }
                place++;
            }
            return number;
        }

        private boolean readWord(String word) {
            skipBlanks();
            int start = place;
            boolean same = true;
            while (place < length && isSmallLetter(here())) {
                int i = place - start;
                same = same && i < word.length() && word.charAt(i) == here();
                place++;
            }
            return same && place - start == word.length() || fail(WRONG_SIGN, start);
        }

        private boolean readSign(char sign) {
            skipBlanks();
            if (here() != sign) {
                return fail(WRONG_SIGN, place);
            }
            place++;
            return true;
        }

        private void skipBlanks() {
            while (place < length && here() == ' ') {
                place++;
            }
        }

        private int here() {
            return place >= 0 && place < length && place < tape.count ? tape.bytes[place] & 255 : NONE;
        }

        private boolean fail(int kind, int start) {
            fault = kind;
            faultPlace = start;
            return false;
        }

        private static boolean isDigit(int sign) {
            return sign >= '0' && sign <= '9';
        }

        private static boolean isSmallLetter(int sign) {
            return sign >= 'a' && sign <= 'z';
        }
    }

    /** The turns told ahead of the latest acts. */
    private static final class Past {
        static final int WIDTH = MOST_TOLD * NUMBERS;
        final int[] toldNumbers = new int[MOST_TAKEN_BACK * WIDTH];
        final int[] toldCounts = new int[MOST_TAKEN_BACK];
        int count;

        void keep(Closing closing) {
            if (count >= MOST_TAKEN_BACK) {
                forgetFirst();
            }
            System.arraycopy(closing.toldNumbers, 0, toldNumbers, count * WIDTH, WIDTH);
            toldCounts[count] = closing.toldCount;
            count++;
        }

        void giveBack(Closing into) {
            if (count < 1 || count > MOST_TAKEN_BACK) {
                return;
            }
            count--;
            for (int t = 0; t < toldCounts[count] && t < MOST_TOLD; t++) {
                into.tell(toldNumbers, count * WIDTH + t * NUMBERS);
            }
        }

        void clear() {
            count = 0;
        }

        private void forgetFirst() {
            System.arraycopy(toldNumbers, WIDTH, toldNumbers, 0, (MOST_TAKEN_BACK - 1) * WIDTH);
            System.arraycopy(toldCounts, 1, toldCounts, 0, MOST_TAKEN_BACK - 1);
            count = MOST_TAKEN_BACK - 1;
        }
    }

    /** The told turns, and the elements that come of them by multiplying. */
    private static final class Closing {
        final int[] toldNumbers = new int[MOST_TOLD * NUMBERS];
        final int[] numbers = new int[MOST_ELEMENTS * NUMBERS];
        final int[] steps = new int[MOST_ELEMENTS * MOST_TOLD];
        final int[] cameFrom = new int[MOST_ELEMENTS];
        final int[] cameBy = new int[MOST_ELEMENTS];
        final int[] next = new int[NUMBERS];
        int root = FIRST_ROOT;
        int toldCount;
        int count;
        int failure;
        int failedElement;
        int failedTold;

        void begin(int newRoot) {
            root = newRoot;
            toldCount = 0;
        }

        void copyTold(Closing other) {
            begin(other.root);
            for (int t = 0; t < other.toldCount && t < MOST_TOLD; t++) {
                tell(other.toldNumbers, t * NUMBERS);
            }
        }

        void tell(int[] row, int from) {
            if (toldCount < MOST_TOLD && holdsTurn(row, from)) {
                System.arraycopy(row, from, toldNumbers, toldCount * NUMBERS, NUMBERS);
                toldCount++;
            }
        }

        boolean close() {
            for (int i = 0; i < NUMBERS; i++) {
                numbers[i] = i == 0 ? WHOLE : 0;
            }
            count = 1;
            failure = 0;
            for (int k = 0; k < count && k < MOST_ELEMENTS; k++) {
                for (int t = 0; t < toldCount && t < MOST_TOLD; t++) {
                    if (!step(k, t)) {
                        return false;
                    }
                }
            }
            return true;
        }

        int numberOf(int[] turn) {
            for (int k = 0; k < count && k < MOST_ELEMENTS; k++) {
                if (isSame(k * NUMBERS, turn)) {
                    return k;
                }
            }
            return NONE;
        }

        int numberOfWhole(int w) {
            for (int i = 0; i < NUMBERS; i++) {
                next[i] = i == 0 ? w : 0;
            }
            return numberOf(next);
        }

        private boolean step(int k, int t) {
            if (!multiply(k * NUMBERS, t * NUMBERS)) {
                return fail(NOT_QUARTERS, k, t);
            }
            int number = numberOf(next);
            if (number == NONE) {
                if (count >= MOST_ELEMENTS) {
                    return fail(TOO_MANY, k, t);
                }
                number = count;
                takeNext(k, t);
            }
            steps[k * MOST_TOLD + t] = number;
            return true;
        }

        private void takeNext(int k, int t) {
            System.arraycopy(next, 0, numbers, count * NUMBERS, NUMBERS);
            cameFrom[count] = k;
            cameBy[count] = t;
            count++;
        }

        private boolean fail(int kind, int k, int t) {
            failure = kind;
            failedElement = k;
            failedTold = t;
            return false;
        }

        private boolean isSame(int from, int[] turn) {
            if (from < 0 || from + NUMBERS > numbers.length || turn.length < NUMBERS) {
                return false;
            }
            for (int i = 0; i < NUMBERS; i++) {
                if (numbers[from + i] != turn[i]) {
                    return false;
                }
            }
            return true;
        }

        // Whether the product of an element and a told turn has quarters; it is the next one then.
        private boolean multiply(int left, int right) {
            if (!holdsTurn(numbers, left) || !holdsTurn(toldNumbers, right)) {
                return false;
            }
            for (int c = 0; c < 4; c++) {
                int whole = 0;
                int ofRoot = 0;
                for (int i = 0; i < 4; i++) {
                    int a = numbers[left + 2 * i];
                    int b = numbers[left + 2 * i + 1];
                    int p = toldNumbers[right + 2 * (i ^ c)];
                    int q = toldNumbers[right + 2 * (i ^ c) + 1];
                    int sign = SIGNS[4 * c + i];
                    whole += sign * (a * p + root * b * q);
                    ofRoot += sign * (a * q + b * p);
                }
                if (whole % WHOLE != 0 || ofRoot % WHOLE != 0) {
                    return false;
                }
                next[2 * c] = whole / WHOLE;
                next[2 * c + 1] = ofRoot / WHOLE;
            }
            return true;
        }

        private static boolean holdsTurn(int[] row, int from) {
            return from >= 0 && from + NUMBERS <= row.length;
        }
    }

    /** The elements of what is told, as numbers: products, orders, classes. */
    private static final class Group {
        final int[] products = new int[MOST_ELEMENTS * MOST_ELEMENTS];
        final int[] inverses = new int[MOST_ELEMENTS];
        final int[] orders = new int[MOST_ELEMENTS];
        final int[] classOf = new int[MOST_ELEMENTS];
        final int[] leasts = new int[MOST_ELEMENTS];
        final int[] sizes = new int[MOST_ELEMENTS];
        int count;
        int classes;
        int central;
        int exponent;
        int longest;
        int minus;

        void build(Closing closing) {
            count = Math.min(closing.count, MOST_ELEMENTS);
            fillProducts(closing);
            fillOrders();
            fillClasses();
            minus = closing.numberOfWhole(-WHOLE);
        }

        int times(int k, int l) {
            return k >= 0 && k < count && l >= 0 && l < count ? products[k * count + l] : 0;
        }

        // h' g h
        int turned(int g, int h) {
            return times(times(at(inverses, h), g), h);
        }

        // Each element but the first came as an earlier one by a told turn, and
        // so does its product with any other one on the left.
        private void fillProducts(Closing closing) {
            for (int k = 0; k < count; k++) {
                int start = k * count;
                products[start] = k;
                for (int l = 1; l < count; l++) {
                    int ahead = at(products, start + closing.cameFrom[l]);
                    products[start + l] = at(closing.steps, ahead * MOST_TOLD + closing.cameBy[l]);
                }
            }
        }

        // The last power ahead of element 0 is the inverse.
        private void fillOrders() {
            exponent = 1;
            longest = 1;
            for (int k = 0; k < count; k++) {
                int order = 1;
                int last = 0;
                for (int power = k; power != 0 && order < count; order++) {
                    last = power;
                    power = times(power, k);
                }
                inverses[k] = last;
                orders[k] = order;
                longest = Math.max(longest, order);
                exponent = exponent / greatestShared(exponent, order) * order;
            }
        }

        private void fillClasses() {
            for (int k = 0; k < count; k++) {
                classOf[k] = NONE;
            }
            classes = 0;
            central = 0;
            for (int k = 0; k < count; k++) {
                if (classOf[k] == NONE) {
                    fillClass(k);
                }
            }
        }

        private void fillClass(int least) {
            int size = 0;
            for (int h = 0; h < count; h++) {
                int other = turned(least, h);
                if (at(classOf, other) == NONE) {
                    classOf[other] = classes;
                    size++;
                }
            }
            leasts[classes] = least;
            sizes[classes] = size;
            classes++;
            if (size == 1) {
                central++;
            }
        }

        int inverseClass(int cls) {
            return at(classOf, at(inverses, at(leasts, cls)));
        }

        // How many elements make one and the same turn of space.
        int halves() {
            return minus == NONE ? 1 : 2;
        }

        int kind() {
            if (longest == count) {
                return CYCLIC;
            }
            if (2 * longest == count) {
                return BINARY_DIHEDRAL;
            }
            if (count == 24) {
                return BINARY_TETRAHEDRAL;
            }
            return count == 48 ? BINARY_OCTAHEDRAL : BINARY_ICOSAHEDRAL;
        }

        int kindNumber() {
            switch (kind()) {
                case CYCLIC: return count;
                case BINARY_DIHEDRAL: return count / 4;
                case BINARY_TETRAHEDRAL: return 3;
                case BINARY_OCTAHEDRAL: return 4;
                default: return 5;
            }
        }

        int countCouples(int a, int b, int c) {
            int product = at(leasts, c);
            int couples = 0;
            for (int k = 0; k < count; k++) {
                if (classOf[k] == a && at(classOf, times(inverses[k], product)) == b) {
                    couples++;
                }
            }
            return couples;
        }

        // Two elements other than 1 and -1 share their axis just if they can be
        // multiplied either way round; so the elements about the axis of one,
        // with 1 and -1, are as many as all elements by those of its class.
        int countAxes(int n) {
            int sharing = 0;
            for (int c = 1; c < classes; c++) {
                if (leasts[c] != minus && sizes[c] > 0 && count / sizes[c] == n * halves()) {
                    sharing += sizes[c];
                }
            }
            int ofEach = (n - 1) * halves();
            return ofEach < 1 ? 0 : sharing / ofEach;
        }

        int leastOfOrder(int order) {
            for (int k = 0; k < count; k++) {
                if (orders[k] == order) {
                    return k;
                }
            }
            return NONE;
        }

        int countOfOrder(int order) {
            int found = 0;
            for (int k = 0; k < count; k++) {
                if (orders[k] == order) {
                    found++;
                }
            }
            return found;
        }

        private static int greatestShared(int a, int b) {
            int most = Math.max(a, 1);
            int rest = Math.max(b, 0);
            for (int i = 0; i < 64 && rest > 0; i++) {
                int next = most % rest;
                most = rest;
                rest = next;
            }
            return most;
        }
    }

    /** A group that two elements make. */
    private static final class Subgroup {
        final int[] places = new int[MOST_ELEMENTS];
        final int[] members = new int[MOST_ELEMENTS];
        int count;
        int firstMaker = NONE;
        int secondMaker = NONE;

        void make(Group group, int k, int l) {
            for (int i = 0; i < places.length; i++) {
                places[i] = NONE;
            }
            count = 0;
            take(0);
            for (int i = 0; i < count && i < MOST_ELEMENTS; i++) {
                take(group.times(members[i], k));
                take(group.times(members[i], l));
            }
        }

        boolean holds(int element) {
            return element >= 0 && element < places.length && places[element] != NONE;
        }

        // Whether all h' g h are in it: enough to ask of the two that make it.
        boolean holdsTurned(Group group, int g) {
            for (int h = 0; h < group.count; h++) {
                if (!holds(group.turned(g, h))) {
                    return false;
                }
            }
            return true;
        }

        int leastBeside(int all) {
            for (int k = 0; k < all; k++) {
                if (!holds(k)) {
                    return k;
                }
            }
            return NONE;
        }

        void searchMakers(Group group) {
            firstMaker = NONE;
            secondMaker = NONE;
            for (int k = 0; k < group.count && firstMaker == NONE; k++) {
                searchSecond(group, k);
            }
        }

        // A second one below the first was looked at the other way round.
        private void searchSecond(Group group, int k) {
            for (int l = k; l < group.count; l++) {
                make(group, k, l);
                if (count == group.count) {
                    firstMaker = k;
                    secondMaker = l;
                    return;
                }
            }
        }

        private void take(int element) {
            if (element >= 0 && element < places.length && count < members.length && places[element] == NONE) {
                places[element] = count;
                members[count] = element;
                count++;
            }
        }
    }

    /** Whole numbers modulo the prime. */
    private static final class Field {
        int prime;
        int root;

        void choose(int elements, int exponent, int square) {
            prime = 0;
            root = 0;
            for (int p = 2 * elements + 1; p <= HIGHEST_PRIME && prime == 0; p++) {
                if (exponent > 0 && (p - 1) % exponent == 0 && isPrime(p)) {
                    root = leastRoot(p, square);
                    prime = root > 0 ? p : 0;
                }
            }
        }

        int mod(int n) {
            if (prime < 1) {
                return 0;
            }
            int rest = n % prime;
            return rest < 0 ? rest + prime : rest;
        }

        int times(int a, int b) {
            return mod(a * b);
        }

        // By the prime's less 2nd power.
        int inverse(int a) {
            int power = 1;
            int square = mod(a);
            for (int rest = prime - 2; rest > 0; rest >>= 1) {
                if ((rest & 1) == 1) {
                    power = mod(power * square);
                }
                square = mod(square * square);
            }
            return power;
        }

        private static boolean isPrime(int p) {
            for (int d = 2; d * d <= p; d++) {
                if (p % d == 0) {
                    return false;
                }
            }
            return p > 1;
        }

        private static int leastRoot(int p, int square) {
            for (int s = 1; s < p; s++) {
                if (s * s % p == square % p) {
                    return s;
                }
            }
            return 0;
        }
    }

    /**
     * Central rows: the rows that the table of couples of each class does no
     * more than stretch. All rows together come apart into them, class by class.
     */
    private static final class Splitting {
        final int[] couples = new int[MOST_CLASSES * MOST_CLASSES * MOST_CLASSES];
        final int[][] rows = new int[MOST_CLASSES][MOST_CLASSES];
        final int[][] parts = new int[MOST_CLASSES][MOST_CLASSES];
        final int[][] table = new int[MOST_CLASSES][MOST_CLASSES];
        final int[][] sums = new int[MOST_CLASSES][MOST_CLASSES];
        final int[][] lines = new int[MOST_CLASSES][2 * MOST_CLASSES];
        final int[] column = new int[MOST_CLASSES];
        final int[] pivots = new int[MOST_CLASSES];
        final int[] equation = new int[MOST_CLASSES + 1];
        // Rows of one space stand side by side; how many stands at the first one, 0 at the others.
        final int[] spaces = new int[MOST_CLASSES];
        final Field field;
        int count;
        int from;
        int size;
        int placed;

        Splitting(Field field) {
            this.field = field;
        }

        void begin(Group group) {
            count = Math.min(group.classes, MOST_CLASSES);
            for (int t = 0; t < count; t++) {
                spaces[t] = t == 0 ? count : 0;
                for (int j = 0; j < count; j++) {
                    rows[t][j] = t == j ? 1 : 0;
                }
            }
            for (int i = 0; i < couples.length; i++) {
                couples[i] = 0;
            }
            for (int k = 0; k < count; k++) {
                for (int x = 0; x < group.count; x++) {
                    int other = group.times(at(group.inverses, x), at(group.leasts, k));
                    int place = placeOf(at(group.classOf, x), at(group.classOf, other), k);
                    if (place >= 0 && place < couples.length) {
                        couples[place]++;
                    }
                }
            }
        }

        // From the last space on, as new ones come behind the one that is split.
        void splitBy(int cls) {
            for (int t = count - 1; t >= 0; t--) {
                if (spaces[t] > 1 && t + spaces[t] <= count) {
                    from = t;
                    size = spaces[t];
                    placed = 0;
                    fillTable(cls);
                    fillEquation();
                    for (int stretch = 0; stretch < field.prime && placed < size; stretch++) {
                        if (solves(stretch)) {
                            placeSpace(stretch);
                        }
                    }
                    takeParts();
                }
            }
        }

        private static int placeOf(int i, int j, int k) {
            return (i * MOST_CLASSES + j) * MOST_CLASSES + k;
        }

        // What the class makes of each row of the space, told in the space's own
        // rows: each of these has 1 at its first place, where the others have 0.
        private void fillTable(int cls) {
            for (int t = 0; t < size; t++) {
                pivots[t] = firstFilled(rows[from + t]);
            }
            for (int t = 0; t < size; t++) {
                for (int s = 0; s < size; s++) {
                    int sum = 0;
                    for (int k = 0; k < count; k++) {
                        sum += at(couples, placeOf(cls, pivots[s], k)) * rows[from + t][k];
                    }
                    table[t][s] = field.mod(sum);
                }
            }
        }

        private int firstFilled(int[] row) {
            for (int j = 0; j < count; j++) {
                if (row[j] != 0) {
                    return j;
                }
            }
            return 0;
        }

        // The equation that the table's stretches solve, so that the space is cleared
        // for these alone; by Leverrier's way: the sums go on as table times sums,
        // with the new coefficient on the diagonal.
        private void fillEquation() {
            for (int t = 0; t < size; t++) {
                for (int s = 0; s < size; s++) {
                    sums[t][s] = t == s ? 1 : 0;
                }
            }
            equation[size] = 1;
            for (int k = 1; k <= size; k++) {
                int trace = 0;
                for (int s = 0; s < size; s++) {
                    multiplyColumn(s);
                    trace += column[s];
                }
                int coefficient = field.times(field.mod(-trace), field.inverse(k));
                equation[size - k] = coefficient;
                for (int t = 0; t < size; t++) {
                    sums[t][t] = field.mod(sums[t][t] + coefficient);
                }
            }
        }

        private void multiplyColumn(int s) {
            for (int t = 0; t < size; t++) {
                int sum = 0;
                for (int k = 0; k < size; k++) {
                    sum += table[t][k] * sums[k][s];
                }
                column[t] = field.mod(sum);
            }
            for (int t = 0; t < size; t++) {
                sums[t][s] = column[t];
            }
        }

        private boolean solves(int stretch) {
            int sum = 0;
            for (int k = size; k >= 0; k--) {
                sum = field.mod(sum * stretch + equation[k]);
            }
            return sum == 0;
        }

        // Places the rows that are stretched so much: the table less the stretch
        // is cleared, and what stays empty tells how its rows are mixed.
        private void placeSpace(int stretch) {
            for (int t = 0; t < size; t++) {
                for (int s = 0; s < size; s++) {
                    lines[t][s] = t == s ? field.mod(table[t][s] - stretch) : table[t][s];
                    lines[t][size + s] = t == s ? 1 : 0;
                }
            }
            int first = placed;
            for (int t = clear(lines, 0, size, size); t < size && placed < size; t++) {
                mixRows(lines[t], parts[placed]);
                spaces[from + placed] = 0;
                placed++;
            }
            clear(parts, first, placed, count);
            if (first < placed) {
                spaces[from + first] = placed - first;
            }
        }

        private void mixRows(int[] shares, int[] into) {
            for (int j = 0; j < count; j++) {
                int sum = 0;
                for (int s = 0; s < size; s++) {
                    sum += shares[size + s] * rows[from + s][j];
                }
                into[j] = field.mod(sum);
            }
        }

        private void takeParts() {
            for (int t = 0; t < placed; t++) {
                System.arraycopy(parts[t], 0, rows[from + t], 0, count);
            }
        }

        // Clears the first columns of rows against one another; answers the
        // number of the first row that stays empty there.
        private int clear(int[][] matrix, int first, int end, int columns) {
            int done = first;
            for (int c = 0; c < columns && done < end; c++) {
                int filled = done;
                while (filled < end && matrix[filled][c] == 0) {
                    filled++;
                }
                if (filled < end) {
                    int[] row = matrix[filled];
                    matrix[filled] = matrix[done];
                    matrix[done] = row;
                    stretchRow(row, field.inverse(row[c]));
                    for (int other = first; other < end; other++) {
                        if (other != done) {
                            takeAway(matrix[other], row, matrix[other][c]);
                        }
                    }
                    done++;
                }
            }
            return done;
        }

        private void stretchRow(int[] row, int by) {
            for (int j = 0; j < row.length; j++) {
                row[j] = field.mod(row[j] * by);
            }
        }

        private void takeAway(int[] row, int[] other, int by) {
            for (int j = 0; by != 0 && j < row.length && j < other.length; j++) {
                row[j] = field.mod(row[j] - by * other[j]);
            }
        }
    }

    /** The characters, by degrees, and how often they are in rows. */
    private static final class Characters {
        final Field field = new Field();
        final int[][] values = new int[MOST_CLASSES][MOST_CLASSES];
        final int[] degrees = new int[MOST_CLASSES];
        final int[] natural = new int[MOST_CLASSES];
        final int[] sizes = new int[MOST_CLASSES];
        final int[] inverses = new int[MOST_CLASSES];
        final int[] mixed = new int[MOST_CLASSES];
        int count;
        int elements;
        int oneOfAll;

        void begin(Group group, Closing closing) {
            field.choose(group.count, group.exponent, closing.root);
            count = Math.min(group.classes, MOST_CLASSES);
            elements = group.count;
            oneOfAll = field.inverse(elements);
            for (int k = 0; k < count; k++) {
                int least = at(group.leasts, k);
                int whole = at(closing.numbers, least * NUMBERS);
                int ofRoot = at(closing.numbers, least * NUMBERS + 1);
                natural[k] = field.times(field.mod(whole + ofRoot * field.root), field.inverse(2));
                sizes[k] = at(group.sizes, k);
                inverses[k] = Math.min(group.inverseClass(k), MOST_CLASSES - 1);
            }
        }

        void take(int[][] centralRows) {
            for (int c = 0; c < count && c < centralRows.length; c++) {
                fillCharacter(c, centralRows[c]);
            }
            sort();
        }

        // A central row has 1 at the class of element 0; it may stand here stretched.
        private void fillCharacter(int c, int[] central) {
            int stretch = field.inverse(central[0]);
            for (int k = 0; k < count; k++) {
                mixed[k] = field.times(central[k], stretch);
            }
            int norm = 0;
            for (int k = 0; k < count; k++) {
                int part = field.times(mixed[k], at(mixed, inverses[k]));
                norm = field.mod(norm + field.times(part, field.inverse(sizes[k])));
            }
            degrees[c] = degreeBy(norm);
            for (int k = 0; k < count; k++) {
                values[c][k] = field.times(field.times(degrees[c], mixed[k]), field.inverse(sizes[k]));
            }
        }

        private int degreeBy(int norm) {
            for (int d = 1; d <= HIGHEST_DEGREE; d++) {
                if (field.times(d * d, norm) == field.mod(elements)) {
                    return d;
                }
            }
            return 0;
        }

        private void sort() {
            for (int end = 1; end < count; end++) {
                for (int c = end; c > 0 && comesAhead(c, c - 1); c--) {
                    int[] row = values[c];
                    values[c] = values[c - 1];
                    values[c - 1] = row;
                    int degree = degrees[c];
                    degrees[c] = degrees[c - 1];
                    degrees[c - 1] = degree;
                }
            }
        }

        private boolean comesAhead(int a, int b) {
            if (isOneEverywhere(b)) {
                return false;
            }
            if (isOneEverywhere(a) || degrees[a] != degrees[b]) {
                return isOneEverywhere(a) || degrees[a] < degrees[b];
            }
            for (int k = 0; k < count; k++) {
                if (values[a][k] != values[b][k]) {
                    return values[a][k] < values[b][k];
                }
            }
            return false;
        }

        private boolean isOneEverywhere(int c) {
            for (int k = 0; k < count; k++) {
                if (values[c][k] != 1) {
                    return false;
                }
            }
            return true;
        }

        int inRowOf(int[] row, int character) {
            int sum = 0;
            for (int k = 0; k < count; k++) {
                sum += sizes[k] * field.times(row[k], at(values[character], inverses[k]));
            }
            return field.times(field.mod(sum), oneOfAll);
        }

        int inProduct(int[] a, int[] b, int character) {
            for (int k = 0; k < count; k++) {
                mixed[k] = field.times(a[k], b[k]);
            }
            return inRowOf(mixed, character);
        }

        int oppositeOf(int character) {
            for (int c = 0; c < count; c++) {
                boolean same = true;
                for (int k = 0; k < count; k++) {
                    same = same && values[c][k] == at(values[character], inverses[k]);
                }
                if (same) {
                    return c;
                }
            }
            return NONE;
        }
    }

    /** What natural turning makes of each character, and how far they are so. */
    private static final class Graph {
        final int[][] lines = new int[MOST_CLASSES][MOST_CLASSES];
        final int[][] distances = new int[MOST_CLASSES][MOST_CLASSES];
        int count;

        void build(Characters characters) {
            count = characters.count;
            for (int a = 0; a < count; a++) {
                for (int b = 0; b < count; b++) {
                    lines[a][b] = characters.inProduct(characters.natural, characters.values[a], b);
                    distances[a][b] = a == b ? 0 : lines[a][b] > 0 ? 1 : NONE;
                }
            }
            for (int between = 0; between < count; between++) {
                shortenBy(between);
            }
        }

        int countWith(int ways) {
            int found = 0;
            for (int a = 0; a < count; a++) {
                int all = 0;
                for (int b = 0; b < count; b++) {
                    all += lines[a][b];
                }
                if (all == ways) {
                    found++;
                }
            }
            return found;
        }

        int diagram() {
            int ends = countWith(1);
            if (ends == 4) {
                return FORK;
            }
            return ends == 3 ? STAR : RING;
        }

        private void shortenBy(int between) {
            for (int a = 0; a < count; a++) {
                for (int b = 0; b < count; b++) {
                    int first = distances[a][between];
                    int second = distances[between][b];
                    boolean joined = first != NONE && second != NONE;
                    if (joined && (distances[a][b] == NONE || first + second < distances[a][b])) {
                        distances[a][b] = first + second;
                    }
                }
            }
        }
    }

    /** The rows of powers, modulo the prime and exactly. */
    private static final class Powers {
        final int[] current = new int[MOST_CLASSES];
        final int[] before = new int[MOST_CLASSES];

        int oftenInRow(Characters characters, int character, int k) {
            begin(characters.count);
            for (int i = 0; i < k && i < HIGHEST_ROW; i++) {
                goOn(characters);
            }
            return characters.inRowOf(current, character);
        }

        int rowWith(Characters characters, int character, int k) {
            begin(characters.count);
            int found = 0;
            for (int row = 0; row <= HIGHEST_ROW && k >= 0; row++) {
                if (characters.inRowOf(current, character) != 0) {
                    if (found == k) {
                        return row;
                    }
                    found++;
                }
                goOn(characters);
            }
            return NONE;
        }

        int countInvariants(Group group, Closing closing, int degree) {
            int doubled = 0;
            for (int c = 0; c < group.classes; c++) {
                int from = at(group.leasts, c) * NUMBERS;
                int whole = at(closing.numbers, from);
                int ofRoot = at(closing.numbers, from + 1);
                doubled += at(group.sizes, c) * doubledValue(whole, ofRoot, closing.root, degree);
            }
            return group.count < 1 ? 0 : doubled / (2 * group.count);
        }

        // Row 0 is what row 1 would take from, were there a row of noughts ahead of it.
        private void begin(int count) {
            for (int k = 0; k < count && k < MOST_CLASSES; k++) {
                current[k] = 1;
                before[k] = 0;
            }
        }

        private void goOn(Characters characters) {
            for (int k = 0; k < characters.count; k++) {
                int next = characters.field.mod(characters.natural[k] * current[k] - before[k]);
                before[k] = current[k];
                current[k] = next;
            }
        }

        // Twice the whole part of what the row of a degree has at a class; what
        // the row has there, doubled, stays in whole numbers p + q root. The
        // parts of the root come to nothing over all classes together.
        private static int doubledValue(int a, int b, int root, int degree) {
            int p = 2;
            int q = 0;
            int lastP = 0;
            int lastQ = 0;
            for (int k = 0; k < degree && k < HIGHEST_ROW; k++) {
                int nextP = (a * p + root * b * q) / 2 - lastP;
                int nextQ = (a * q + b * p) / 2 - lastQ;
                lastP = p;
                lastQ = q;
                p = nextP;
                q = nextQ;
            }
            return p;
        }
    }
}
