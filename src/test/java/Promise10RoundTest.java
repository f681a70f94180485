/** Promise 10: "How many corners ROUND has (k = -1), the ID of the k-th; NONE". */
public final class Promise10RoundTest {
    private static final Check check = new Check();

    public static void main(String[] args) throws IllegalAccessException {
        check.runAll(Promise10RoundTest.class);
    }

    private static void roundIs(LiveHull hull, long... ids) {
        long[] got = new long[ids.length];
        for (int k = 0; k < ids.length; k++) {
            got[k] = hull.round(k);
        }
        check.row("round(..)", got, ids);
        check.due("round(-1)", hull.round(-1), ids.length);
        check.due("round, past its end", hull.round(ids.length), LiveHull.NONE);
    }

    /** "those BELOW from the left to the right, then those ABOVE from the right to the left" */
    static void goesBelowThenAbove() {
        roundIs(Shapes.square(), 0, 1, 2, 3);
        roundIs(Shapes.with(5, 9, 0, 0, 5, -9, 2, 8), 1, 2, 0, 3);
    }

    /** "each once": the ends are of both CHAINS. */
    static void hasTheEndsOfBothChainsOnce() {
        roundIs(Shapes.with(0, 0, 3, 4, 6, 0, 3, -4), 0, 3, 2, 1);
    }

    static void hasTwoAtTheLeftIfTheyAreOfOneX() {
        roundIs(Shapes.with(0, 9, 0, 0, 6, 4, 0, 5), 1, 2, 0);
    }

    static void hasTwoAtTheRightIfTheyAreOfOneX() {
        roundIs(Shapes.with(6, 9, 6, 0, 0, 4, 6, 5), 2, 1, 0);
    }

    static void ofNoPoint() {
        roundIs(new LiveHull());
        check.refused(Shapes::none, "round(0)", hull -> hull.round(0), LiveHull.NONE);
    }

    static void ofOnePoint() {
        roundIs(Shapes.one(), 0);
    }

    static void ofTwoPoints() {
        roundIs(Shapes.with(7, 7, 2, 9), 1, 0);
        roundIs(Shapes.with(7, 7, 7, 9), 0, 1);
    }

    static void ofPointsInALine() {
        roundIs(Shapes.with(2, 2, 0, 0, 1, 1), 1, 0);
        roundIs(Shapes.level(32), 0, 31);
    }

    static void ofPointsOfOneX() {
        roundIs(Shapes.with(7, 7, 7, 9, 7, 8, 7, 2), 3, 1);
        roundIs(Shapes.column(32), 0, 31);
    }

    static void hasNoneStraightBetweenTwoCorners() {
        roundIs(Shapes.with(0, 0, 2, 0, 4, 0, 4, 2, 4, 4, 2, 4, 0, 4, 0, 2, 2, 2), 0, 2, 4, 6);
    }

    static void hasThirtyTwoCornersAtMost() {
        long[] due = new long[32];
        for (int k = 0; k < 16; k++) {
            due[k] = 2 * k;
            due[31 - k] = 2 * k + 1;
        }
        roundIs(Shapes.ring(), due);
    }

    static void goesFromBoundToBound() {
        roundIs(Shapes.widest(), 0, 1, 2, 3);
        roundIs(Shapes.hair(), 0, 2, 1);
    }

    static void followsWhatComesAndGoes() {
        LiveHull hull = Shapes.square();
        hull.move(5, 20, 5);
        roundIs(hull, 0, 1, 5, 2, 3);
        hull.remove(1);
        roundIs(hull, 0, 4, 5, 2, 3);
        hull.move(2, 5, 5);
        roundIs(hull, 0, 4, 5, 3);
        hull.remove(0);
        hull.remove(3);
        roundIs(hull, 4, 5, 2);
    }

    static void noneIfKIsTooSmall() {
        int[] ks = {-2, -3, -6, Shapes.LEAST};
        check.refusedEach(Shapes::two, ks, LiveHull::round, LiveHull.NONE);
        check.refusedEach(Shapes::none, ks, LiveHull::round, LiveHull.NONE);
    }

    static void noneIfKIsTooLarge() {
        int[] ks = {2, 3, 31, 32, 33, Shapes.GREATEST};
        check.refusedEach(Shapes::two, ks, LiveHull::round, LiveHull.NONE);
        check.due("past 32", Shapes.ring().round(32), LiveHull.NONE);
        check.due("greatest of 32", Shapes.ring().round(Shapes.GREATEST), LiveHull.NONE);
    }
}
