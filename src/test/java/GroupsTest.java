import java.util.HashSet;
import java.util.List;
import java.util.Random;
import java.util.Set;

/** All answers of many groups, hand-picked and drawn, against the document's terms reckoned slowly. */
public final class GroupsTest extends Samples {
    public static void main(String[] args) {
        Random random = new Random(20261120);
        List<List<int[]>> twos = List.of(List.of(), List.of(ONE), List.of(MINUS), List.of(ODD_THIRD), List.of(I),
                List.of(THIRD), List.of(EIGHTH), List.of(I, J), List.of(MINUS, ONE, J, I), List.of(EIGHTH, J),
                List.of(I, THIRD), List.of(MINUS, EIGHTH, THIRD), List.of(THIRD, EIGHTH, I, J));
        for (List<int[]> turns : twos) {
            new GroupCheck(2, turns, random).run();
        }
        List<List<int[]>> threes = List.of(List.of(TWELFTH), List.of(TWELFTH, J), List.of(J, MINUS, TWELFTH),
                List.of(MINUS), List.of(THIRD, J));
        for (List<int[]> turns : threes) {
            new GroupCheck(3, turns, random).run();
        }
        List<List<int[]>> fives = List.of(List.of(FIFTH), List.of(FIFTH, MINUS), List.of(THIRD, FIFTH),
                List.of(MINUS, ONE, FIFTH, THIRD));
        for (List<int[]> turns : fives) {
            if (new Model(5, turns).why[0] == 0) {
                new GroupCheck(5, turns, random).run();
            } else {
                Check.say("a group of this test does not close");
            }
        }
        drawn(random);
        Check.end("GroupsTest");
    }

    private static void drawn(Random random) {
        Set<String> seen = new HashSet<>();
        for (int d : Turns.ROOTS) {
            for (int i = 0; i < 25; i++) {
                List<int[]> turns = Turns.closing(d, random);
                Model m = new Model(d, turns);
                if (seen.add(d + " " + m.elements)) {
                    new GroupCheck(d, turns, random).run();
                }
            }
        }
    }
}
