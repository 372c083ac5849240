import java.util.ArrayList;
import java.util.List;
import java.util.Random;

/** All turns of a root, and lists of them that close. */
final class Turns {
    static final int[] ROOTS = {2, 3, 5};
    private static final List<List<int[]>> KEPT = new ArrayList<>();

    private Turns() {
    }

    static List<int[]> all(int d) {
        if (KEPT.isEmpty()) {
            for (int root : ROOTS) {
                List<int[]> found = new ArrayList<>();
                search(root, new int[8], 0, found);
                KEPT.add(found);
            }
        }
        return KEPT.get(d == 2 ? 0 : d == 3 ? 1 : 2);
    }

    private static void search(int d, int[] turn, int part, List<int[]> found) {
        if (part == 4) {
            if (Model.isTurn(d, turn)) {
                found.add(turn.clone());
            }
            return;
        }
        for (int a = -4; a <= 4; a++) {
            for (int b = -4; b <= 4; b++) {
                turn[2 * part] = a;
                turn[2 * part + 1] = b;
                if (squares(d, turn, part) <= 16) {
                    search(d, turn, part + 1, found);
                }
            }
        }
    }

    private static int squares(int d, int[] turn, int part) {
        int squares = 0;
        for (int i = 0; i <= part; i++) {
            squares += turn[2 * i] * turn[2 * i] + d * turn[2 * i + 1] * turn[2 * i + 1];
        }
        return squares;
    }

    static int[] any(int d, Random random) {
        List<int[]> all = all(d);
        return all.get(random.nextInt(all.size())).clone();
    }

    /** Up to four turns that close, drawn until a try of each more one has failed often enough. */
    static List<int[]> closing(int d, Random random) {
        List<int[]> turns = new ArrayList<>();
        int wanted = random.nextInt(5);
        for (int tries = 0; tries < 60 && turns.size() < wanted; tries++) {
            turns.add(any(d, random));
            if (new Model(d, turns).why[0] != 0) {
                turns.remove(turns.size() - 1);
            }
        }
        return turns;
    }
}
