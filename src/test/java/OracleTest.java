import java.util.ArrayDeque;

/** All promises at once: long mixed runs of calls, each answer beside the oracle's. */
public final class OracleTest {
    private static final int CALLS = 512;
    private static final int FAR = 1000000000;
    private static final String[] CHANGES = {"add", "add", "add", "add", "remove", "move", "move",
        "image", "restore"};
    private static final String[] QUESTIONS = {"point", "ranked", "part", "chain", "bridge", "round",
        "extreme", "where", "touch", "area", "told"};
    private static final int[] ODD = {Integer.MIN_VALUE, Integer.MIN_VALUE + 1, -FAR - 1, -6, -2, -1,
        32, 63, 64, FAR + 1, Integer.MAX_VALUE};

    private long seed;
    private final LiveHull hull = new LiveHull();
    private final Oracle oracle = new Oracle();
    private final ArrayDeque<String> last = new ArrayDeque<>();

    private OracleTest(long seed) {
        this.seed = seed;
    }

    public static void main(String[] args) {
        Check check = new Check();
        for (int run = 0; run < 240 && !check.failed(); run++) {
            check.about("run " + run);
            new OracleTest(run * 7919L + 17).run(check, run % 6);
        }
        check.end();
    }

    private void run(Check check, int kind) {
        int wanted = 1 + next(40);
        for (int call = 0; call < CALLS && !check.failed(); call++) {
            boolean filling = oracle.size() < wanted && next(3) != 0;
            String name = filling ? "add" : next(4) == 0 ? pick(CHANGES) : pick(QUESTIONS);
            int[] with = arguments(name, kind);
            String text = name + "(" + with[0] + ", " + with[1] + ", " + with[2] + ")";
            last.add(text);
            if (last.size() > 40) last.remove();
            long want = oracle.answer(name, with[0], with[1], with[2]);
            check.due(text, Calls.ask(hull, name, with[0], with[1], with[2]), want);
        }
        if (check.failed()) System.out.println("the last calls: " + last);
    }

    /** Numbers that mostly are as told, and now and then are not. */
    private int[] arguments(String call, int kind) {
        int[] with = new int[3];
        switch (call) {
            case "add": case "where": case "extreme":
                with[0] = coordinate(kind);
                with[1] = coordinate(kind);
                break;
            case "move":
                with[0] = next(oracle.size() + 2);
                with[1] = coordinate(kind);
                with[2] = coordinate(kind);
                break;
            case "touch":
                with[0] = coordinate(kind);
                with[1] = coordinate(kind);
                with[2] = next(2);
                break;
            case "part":
                with[0] = partNumber();
                with[1] = next(6);
                break;
            case "chain": case "bridge":
                with[0] = partNumber();
                with[1] = next(2);
                with[2] = next(call.equals("chain") ? 8 : 2);
                break;
            case "point":
                with[0] = next(oracle.size() + 1);
                with[1] = next(5);
                break;
            case "round":
                with[0] = next(12) - 1;
                break;
            case "image": case "restore":
                with[0] = next(2);
                break;
            case "told":
                with[0] = next(5);
                break;
            default:
                with[0] = next(oracle.size() + 2);
        }
        if (next(25) == 0) with[next(3)] = ODD[next(ODD.length)];
        return with;
    }

    private int partNumber() {
        return 1 + next(Math.max(3, 2 * oracle.size()));
    }

    private int coordinate(int kind) {
        switch (kind) {
            case 0: return next(5) - 2;
            case 1: return next(13) - 6;
            case 2: return next(2001) - 1000;
            case 3: return next(2 * FAR + 1) - FAR;
            case 4: return (next(3) - 1) * (FAR - next(3));
            default: return (next(3) - 1) * FAR / (1 + next(4)) + next(2);
        }
    }

    private String pick(String[] names) {
        return names[next(names.length)];
    }

    /** The same numbers at every run of the test. */
    private int next(int below) {
        seed = seed * 6364136223846793005L + 1442695040888963407L;
        return (int) Long.remainderUnsigned(seed >>> 33, below);
    }
}
