import java.lang.reflect.InvocationTargetException;
import java.lang.reflect.Method;
import java.util.ArrayList;
import java.util.Arrays;
import java.util.List;
import java.util.Random;

/**
 * Random runs of 512 calls, with wrong arguments in all places, against a model
 * of the state; what a call tells of the group is compared with a new object
 * that was told the same turns by a text.
 */
public final class RunsTest {
    /** What an argument may be: an element, a class, a character (else refused as 0), between two (else 1). */
    private record Place(char kind, int least, int most) {
    }

    private record Ask(String name, Place... places) {
    }

    private static final Place E = new Place('E', 0, 0);
    private static final Place C = new Place('C', 0, 0);
    private static final Place H = new Place('H', 0, 0);
    private static final Place ANY = new Place('A', 0, 0);
    private static final Ask[] ASKS = {
        new Ask("element", E, between(0, 10)), new Ask("product", E, E), new Ask("power", E, ANY),
        new Ask("of", C, between(0, 6)), new Ask("couples", C, C, C), new Ask("axes", between(2, 120)),
        new Ask("degree", H), new Ask("value", H, C), new Ask("often", H, H, H), new Ask("opposite", H),
        new Ask("ways", H, H), new Ask("far", H, H), new Ask("withWays", between(0, 4)),
        new Ask("invariants", between(0, 200)), new Ask("inRow", H, between(0, 200)), new Ask("row", H, ANY),
        new Ask("made", E, E, between(0, 1)), new Ask("isMade", E, E, E), new Ask("isKept", E, E),
        new Ask("ofOrder", between(1, 120), between(0, 1)), new Ask("makers", between(0, 1)), new Ask("print"),
        new Ask("told", between(0, 15)),
    };
    private static final int[] WILD = {Integer.MIN_VALUE, Integer.MAX_VALUE, -1, 121, 400, 1 << 30, -2};

    private final Random random;
    private final DoubleTurns x = new DoubleTurns();
    private final List<List<int[]>> past = new ArrayList<>();
    private final StringBuilder tape = new StringBuilder();
    private final int[] status = new int[3];
    private int[] why = new int[4];
    private int fault = Model.NONE;
    private int d = 2;
    private List<int[]> told = new ArrayList<>();
    private Model m = new Model(2, told);
    private DoubleTurns twin = new DoubleTurns();

    private RunsTest(int seed) {
        random = new Random(seed);
    }

    private static Place between(int least, int most) {
        return new Place('B', least, most);
    }

    public static void main(String[] args) {
        for (int seed = 0; seed < 150; seed++) {
            new RunsTest(seed).run(seed);
        }
        Check.end("RunsTest");
    }

    private void run(int seed) {
        for (int call = 0; call < 220; call++) {
            String where = "run " + seed + " call " + call + " ";
            switch (random.nextInt(12)) {
                case 0 -> feed(where);
                case 1 -> text(where);
                case 2, 3 -> add(where);
                case 4 -> drop(where);
                case 5 -> undo(where);
                case 6 -> small(where);
                default -> ask(where, ASKS[random.nextInt(ASKS.length)]);
            }
        }
        for (int what = 0; what < 3; what++) {
            Check.due("run " + seed + " status " + what, x.status(what), status[what]);
        }
    }

    private void tell(int root, List<int[]> turns) {
        d = root;
        told = turns;
        m = new Model(d, told);
        renewTwin();
    }

    private void renewTwin() {
        twin = new DoubleTurns();
        Check.due("twin", Texts.tell(twin, Texts.of(d, told.toArray(new int[0][]))), m.size());
    }

    private void feed(String where) {
        String text = someText();
        for (int i = 0; i < text.length(); i += 20) {
            StringBuilder piece = new StringBuilder(text.substring(i, Math.min(i + 20, text.length())));
            while (piece.length() < 20) {
                piece.append((char) random.nextInt(256));
            }
            boolean fits = tape.length() + 20 <= 400;
            Check.due(where + "feed", Texts.feed(x, piece.toString()), fits ? tape.length() + 20 : Model.NONE);
            if (fits) {
                tape.append(piece);
            }
        }
    }

    private String someText() {
        int root = Turns.ROOTS[random.nextInt(3)];
        StringBuilder text = new StringBuilder("root ").append(root).append(';');
        for (int[] t : random.nextBoolean() ? Turns.closing(root, random) : List.of(Turns.any(root, random))) {
            text.append(Texts.turn(t));
        }
        if (random.nextInt(3) == 0) {
            text.setCharAt(random.nextInt(text.length()), (char) random.nextInt(256));
        }
        return text.toString();
    }

    private void text(String where) {
        why = new int[4];
        int end = tape.lastIndexOf(";") + 1;
        int n = random.nextInt(3) > 0 ? end : random.nextInt(405) - 2;
        if (n < 0 || n > tape.length()) {
            status[1]++;
            Check.refused(where + "text " + n, 1, () -> x.text(n));
            return;
        }
        TextModel read = new TextModel(tape.substring(0, n));
        int got = x.text(n);
        tape.setLength(0);
        fault = read.place;
        if (read.fault == 0) {
            past.clear();
            tell(read.d, read.turns);
            Check.due(where + "text", got, m.size());
        } else {
            Check.due(where + "text", got, read.fault - 10);
            why = read.fault == 5 ? read.model.why : why;
        }
        Check.due(where + "fault", x.fault(), fault);
    }

    private void add(String where) {
        why = new int[4];
        int[] t = Turns.any(d, random);
        if (random.nextInt(3) == 0 && m.size() > 1) {
            List<Integer> e = m.elements.get(random.nextInt(m.size()));
            for (int i = 0; i < 8; i++) {
                t[i] = e.get(i);
            }
        }
        if (random.nextInt(5) == 0) {
            t[random.nextInt(8)] = random.nextInt(12) - 6;
        }
        boolean fits = Arrays.stream(t).allMatch(n -> n >= -4 && n <= 4) && Model.isTurn(d, t);
        List<int[]> more = new ArrayList<>(told);
        more.add(t);
        Model grown = fits && told.size() < 4 ? new Model(d, more) : null;
        int kind = !fits ? 1 : grown == null || grown.why[0] != 0 ? 2 : Model.NONE;
        if (kind != Model.NONE) {
            status[kind]++;
            why = grown == null ? why : grown.why;
            Check.refused(where + "add", kind, () -> Texts.add(x, t));
            return;
        }
        keep();
        tell(d, more);
        Check.due(where + "add", Texts.add(x, t), m.size());
    }

    private void keep() {
        past.add(told);
        if (past.size() > 8) {
            past.remove(0);
        }
    }

    private void drop(String where) {
        int k = random.nextInt(7) - 1;
        if (k < 0 || k >= told.size()) {
            status[0]++;
            Check.refused(where + "drop " + k, 0, () -> x.drop(k));
            return;
        }
        keep();
        List<int[]> fewer = new ArrayList<>(told);
        fewer.remove(k);
        tell(d, fewer);
        Check.due(where + "drop " + k, x.drop(k), m.size());
    }

    private void undo(String where) {
        if (past.isEmpty()) {
            Check.due(where + "undo", x.undo(), Model.NONE);
            return;
        }
        tell(d, past.remove(past.size() - 1));
        Check.due(where + "undo", x.undo(), past.size());
    }

    private void small(String where) {
        int what = random.nextInt(9) == 0 ? wild() : random.nextInt(6) - 1;
        Check.due(where + "why " + what, x.why(what), what >= 0 && what <= 3 ? why[what] : Model.NONE);
        Check.due(where + "status " + what, x.status(what), what >= 0 && what <= 2 ? status[what] : Model.NONE);
        Check.due(where + "fault", x.fault(), fault);
        Check.due(where + "root", x.told(0), d);
        Check.due(where + "told turns", x.told(1), told.size());
        Check.due(where + "acts", x.told(14), past.size());
        Check.due(where + "bytes", x.told(15), tape.length());
        int[] t = Turns.any(d, random);
        t[0] = random.nextInt(4) == 0 ? wild() : t[0];
        Check.due(where + "find", Texts.find(x, t), m.elements.indexOf(Model.listOf(t)));
    }

    private int wild() {
        return WILD[random.nextInt(WILD.length)];
    }

    private int limit(char kind) {
        return kind == 'E' ? m.size() : m.classes().size();
    }

    private int argument(Place place) {
        if (random.nextInt(8) == 0) {
            return wild();
        }
        return switch (place.kind) {
            case 'A' -> random.nextInt(400) - 100;
            case 'B' -> place.least - 1 + random.nextInt(place.most - place.least + 3);
            default -> random.nextInt(limit(place.kind) + 1) - (random.nextInt(9) == 0 ? 1 : 0);
        };
    }

    private void ask(String where, Ask ask) {
        Object[] arguments = new Object[ask.places.length];
        boolean missing = false;
        boolean unfit = false;
        for (int i = 0; i < arguments.length; i++) {
            Place place = ask.places[i];
            int n = argument(place);
            arguments[i] = n;
            missing |= "ECH".indexOf(place.kind) >= 0 && (n < 0 || n >= limit(place.kind));
            unfit |= place.kind == 'B' && (n < place.least || n > place.most);
        }
        String call = where + ask.name + Arrays.toString(arguments);
        if (missing || unfit) {
            int kind = missing ? 0 : 1;
            status[kind]++;
            Check.refused(call, kind, () -> invoke(x, ask.name, arguments));
            return;
        }
        boolean own = ask.name.equals("told") && (int) arguments[0] >= 14;
        if (!own) {
            Check.due(call, invoke(x, ask.name, arguments), invoke(twin, ask.name, arguments));
        }
    }

    private static long invoke(DoubleTurns object, String name, Object[] arguments) {
        Class<?>[] types = new Class<?>[arguments.length];
        Arrays.fill(types, int.class);
        try {
            Method method = DoubleTurns.class.getMethod(name, types);
            Object answer = method.invoke(object, arguments);
            return answer instanceof Boolean b ? b ? 1 : 0 : ((Number) answer).longValue();
        } catch (InvocationTargetException e) {
            throw (RuntimeException) e.getCause();
        } catch (ReflectiveOperationException e) {
            throw new AssertionError(e);
        }
    }
}
