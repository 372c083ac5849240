/** Turns and groups that the tests which extend it use by name. */
abstract class Samples {
    static final int[] ONE = {4, 0, 0, 0, 0, 0, 0, 0};
    static final int[] MINUS = {-4, 0, 0, 0, 0, 0, 0, 0};
    static final int[] I = {0, 0, 4, 0, 0, 0, 0, 0};
    static final int[] J = {0, 0, 0, 0, 4, 0, 0, 0};
    static final int[] THIRD = {2, 0, 2, 0, 2, 0, 2, 0};
    static final int[] ODD_THIRD = {-2, 0, 2, 0, 2, 0, 2, 0};
    /** Of root 2 alone. */
    static final int[] EIGHTH = {0, 2, 0, 2, 0, 0, 0, 0};
    /** Of root 3 alone. */
    static final int[] TWELFTH = {0, 2, 2, 0, 0, 0, 0, 0};
    /** Of root 5 alone. */
    static final int[] FIFTH = {-1, 1, 2, 0, 1, 1, 0, 0};
    /** A turn of root 2 the square of which has no quarters: w would be 2 / 16. */
    static final int[] OPEN = {3, 0, 2, 0, 1, 0, 0, 1};

    Samples() {
    }

    static DoubleTurns of(int root, int[]... turns) {
        DoubleTurns x = new DoubleTurns();
        Texts.tell(x, Texts.of(root, turns));
        return x;
    }

    /** 1, i, j, -1, k, -k, -i, -j in this order; classes 1, i, j, -1, k. */
    static DoubleTurns eight() {
        return of(2, I, J);
    }

    static DoubleTurns tetrahedral() {
        return of(2, I, THIRD);
    }

    static DoubleTurns octahedral() {
        return of(2, EIGHTH, THIRD);
    }

    static DoubleTurns icosahedral() {
        return of(5, THIRD, FIFTH);
    }
}
