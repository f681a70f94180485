/** Each set of POINTS that fits a grid of three by three, so each way to lie straight in it. */
public final class GridTest {
    private static final int WIDE = 3, PLACES = WIDE * WIDE;
    private static final Check check = new Check();

    private final LiveHull hull = new LiveHull();
    private final Oracle oracle = new Oracle();

    public static void main(String[] args) {
        for (int set = 0; set < 1 << PLACES && !check.failed(); set++) {
            check.about("the set " + Integer.toBinaryString(set));
            new GridTest().askForPoints(set);
            new GridTest().askForParts(set);
            new GridTest().askForWhatLiesRound(set);
        }
        check.end();
    }

    private void ask(String call, int a, int b, int c) {
        String text = call + "(" + a + ", " + b + ", " + c + ")";
        check.due(text, Calls.ask(hull, call, a, b, c), oracle.answer(call, a, b, c));
    }

    /** Ahead of the questions the POINTS come in an order that is not that of their RANK. */
    private void fill(int set) {
        for (int k = 0; k < PLACES; k++) {
            int place = k * 5 % PLACES;
            if ((set >> place & 1) != 0) ask("add", place / WIDE, place % WIDE, 0);
        }
    }

    private void askForPoints(int set) {
        fill(set);
        for (int k = 0; k < 5; k++) ask("told", k, 0, 0);
        for (int k = 0; k <= PLACES; k++) {
            ask("ranked", k, 0, 0);
            for (int what = 0; what < 5; what++) ask("point", k, what, 0);
        }
    }

    private void askForParts(int set) {
        fill(set);
        for (int part = 1; part < 2 * PLACES; part++) {
            for (int what = 0; what < 6; what++) ask("part", part, what, 0);
            for (int side = 0; side < 2; side++) {
                for (int end = 0; end < 2; end++) ask("bridge", part, side, end);
                for (int k = 0; k <= WIDE; k++) ask("chain", part, side, k);
            }
        }
    }

    private void askForWhatLiesRound(int set) {
        fill(set);
        ask("area", 0, 0, 0);
        for (int k = -1; k < PLACES; k++) ask("round", k, 0, 0);
        for (int x = -2; x <= WIDE; x++) {
            for (int y = -2; y <= WIDE; y++) {
                ask("extreme", x, y, 0);
                ask("where", x, y, 0);
                ask("touch", x, y, 0);
                ask("touch", x, y, 1);
            }
        }
    }
}
