import java.lang.reflect.InvocationTargetException;
import java.lang.reflect.Method;
import java.util.ArrayList;
import java.util.Arrays;
import java.util.Comparator;
import java.util.List;
import java.util.Random;

/** Runs of 512 calls, from seeds that are always the same, against the plain model. */
final class ModelTest {
    private static final int RUNS = 1500;
    private static final int CALLS = 512;
    private static final Due due = new Due();

    public static void main(String[] args) throws ReflectiveOperationException {
        List<Method> calls = new ArrayList<>(Arrays.asList(ThumbnailRow.class.getMethods()));
        calls.removeIf(call -> call.getDeclaringClass() != ThumbnailRow.class);
        calls.sort(Comparator.comparing(Method::getName));
        for (int run = 0; run < RUNS; run++) {
            play(run, calls);
        }
        due.end();
    }

    private static void play(int run, List<Method> calls) throws ReflectiveOperationException {
        Random random = new Random(run);
        // A few runs ask for anything, most for what a reel of some shots can answer.
        int wildness = run % 10 == 0 ? 2 : run % 3 == 0 ? 12 : 60;
        int mostShots = 3 + random.nextInt(22);
        ThumbnailRow reel = new ThumbnailRow();
        PlainModel model = new PlainModel();
        StringBuilder told = new StringBuilder("run " + run);
        for (int i = 0; i < CALLS; i++) {
            Method call = calls.get(random.nextInt(calls.size()));
            if (isTooMany(call.getName(), reel, mostShots, random)) {
                continue;
            }
            int[] chosen = choose(call, random, wildness, reel.shots());
            String want = model.answer(call.getName(), chosen);
            String got = answer(reel, call, chosen);
            told.append("\n  ").append(call.getName()).append(Arrays.toString(chosen)).append(" = ").append(got);
            if (!want.equals(got)) {
                due.is(told.toString(), got, want);
                return;
            }
        }
    }

    /** Keeps reels short often enough for orders, and names unlocked for a while. */
    private static boolean isTooMany(String call, ThumbnailRow reel, int mostShots, Random random) {
        switch (call) {
            case "shot":
                return reel.shots() >= mostShots && random.nextInt(10) != 0;
            case "drop":
                return reel.shots() < 3 && random.nextInt(10) != 0 || random.nextInt(4) != 0;
            case "lock":
                return random.nextInt(6) != 0;
            default:
                return false;
        }
    }

    private static int[] choose(Method call, Random random, int wildness, int shots) {
        String kinds = kindsOf(call.getName());
        int[] chosen = new int[kinds.length()];
        for (int i = 0; i < chosen.length; i++) {
            char kind = kinds.charAt(i);
            chosen[i] = random.nextInt(wildness) == 0 ? wild(kind, random) : tame(kind, random, shots);
        }
        return chosen;
    }

    /** One letter for each argument: what it is. */
    private static String kindsOf(String call) {
        switch (call) {
            case "shot": return "SLFP";
            case "move": return "#P";
            case "at": case "wrong": case "isBroken": return "P";
            case "camera": return "#SL";
            case "length": case "bring": return "#F";
            case "stand": return "#4pg";
            case "enters": case "leaves": return "#4e";
            case "seen": case "ended": return "T";
            case "named": return "Na";
            case "excuse": return "Px";
            case "hand": return "#4";
            case "noteIs": case "renew": return "n";
            case "close": return "nb";
            case "notes": return "o";
            case "dear": return "#b";
            case "drop": case "place": case "version": case "time": case "number": case "letter": case "with":
            case "note": return "#";
            default: return "";
        }
    }

    private static int tame(char kind, Random random, int shots) {
        switch (kind) {
            case 'S': return "sn00".charAt(random.nextInt(4));
            case 'L': return random.nextInt(10) == 0 ? random.nextInt(5) : random.nextInt(2);
            case 'F': return random.nextInt(5) == 0 ? 1 + random.nextInt(240) : 1 + random.nextInt(3);
            case 'P': return random.nextInt(shots + 1);
            case '#': return random.nextInt(random.nextInt(4) == 0 ? 25 : Math.min(24, shots + 2));
            case '4': return random.nextInt(3) == 0 ? random.nextInt(4) : random.nextInt(2);
            case 'p': return "lcr-".charAt(random.nextInt(4));
            case 'g': return "lcr".charAt(random.nextInt(3));
            case 'e': return "lr-".charAt(random.nextInt(3));
            case 'T': return random.nextInt(30);
            case 'N': return random.nextInt(shots + 2);
            case 'a': return "--ABCDEFG".charAt(random.nextInt(9));
            case 'x': return "xjgem".charAt(random.nextInt(5));
            case 'n': return random.nextInt(12);
            case 'o': return "odrs".charAt(random.nextInt(4));
            default: return random.nextInt(2);
        }
    }

    private static int wild(char kind, Random random) {
        if (kind == 'b') {
            return random.nextInt(2);
        }
        if ("Spgeaxo".indexOf(kind) >= 0) {
            return random.nextInt(3) == 0 ? random.nextInt(65536) : "sn0lcr-xjgemodABCFG".charAt(random.nextInt(19));
        }
        int[] edges = {-1, 0, 1, 3, 4, 5, 6, 23, 24, 25, 39, 40, 240, 241, 9999, 10000};
        return random.nextInt(5) == 0 ? random.nextInt() : edges[random.nextInt(edges.length)];
    }

    private static String answer(ThumbnailRow reel, Method call, int[] chosen) throws ReflectiveOperationException {
        Class<?>[] types = call.getParameterTypes();
        Object[] arguments = new Object[chosen.length];
        for (int i = 0; i < chosen.length; i++) {
            arguments[i] = types[i] == char.class ? (Object) (char) chosen[i]
                    : types[i] == boolean.class ? (Object) (chosen[i] != 0) : (Object) chosen[i];
        }
        try {
            return String.valueOf(call.invoke(reel, arguments));
        } catch (InvocationTargetException e) {
            return e.getCause() instanceof RuntimeException ? Due.nameOf((RuntimeException) e.getCause())
                    : e.getCause().toString();
        }
    }
}
