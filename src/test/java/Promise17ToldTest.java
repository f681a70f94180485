/** Promise 17: how many there are of all; "4: the greatest DEPTH (NONE: no POINT). OUTSIDE". */
public final class Promise17ToldTest {
    private static final Check check = new Check();

    public static void main(String[] args) throws IllegalAccessException {
        check.runAll(Promise17ToldTest.class);
    }

    private static void toldIs(LiveHull hull, int... due) {
        for (int what = 0; what < due.length; what++) {
            check.due("told(" + what + ")", hull.told(what), due[what]);
        }
    }

    static void ofNoPoint() {
        toldIs(new LiveHull(), 0, 0, 0, 0, LiveHull.NONE);
    }

    static void ofNoPointOnceTheLastHasGone() {
        LiveHull hull = Shapes.two();
        hull.remove(0);
        hull.remove(1);
        toldIs(hull, 0, 0, 0, 0, LiveHull.NONE);
    }

    static void ofOnePoint() {
        toldIs(Shapes.one(), 1, 1, 2, 0, 0);
    }

    static void ofTwoPoints() {
        toldIs(Shapes.two(), 2, 3, 8, 0, 1);
        toldIs(Shapes.column(2), 2, 3, 6, 2, 1);
    }

    static void ofPointsInALine() {
        toldIs(Shapes.with(0, 0, 1, 1, 2, 2), 3, 5, 14, 2, 2);
        toldIs(Shapes.with(0, 0, 1, 1, 2, 2, 3, 3, 4, 4), 5, 9, 26, 6, 3);
    }

    static void ofPointsNearlyInALine() {
        toldIs(Shapes.hair(), 3, 5, 15, 1, 2);
    }

    /** Each PART of more than one has one corner a side, and one of its two halves the same one. */
    static void ofThirtyTwoOfOneX() {
        toldIs(Shapes.column(32), 32, 63, 2 * 63, 2 * 31, 5);
    }

    /**
     * BELOW all are corners at each DEPTH; ABOVE two of each PART, one of a single POINT, so that of
     * the corners of each half of more than one a single one is left as its REST.
     */
    static void ofThirtyTwoCorners() {
        toldIs(Shapes.bowl(32), 32, 63, 6 * 32 + 2 * 31 + 32, 30, 5);
    }

    static void partsAreTwiceThePointsButOne() {
        for (int count = 1; count <= 32; count++) {
            check.due("told(1) of " + count, Shapes.level(count).told(1), 2 * count - 1);
        }
    }

    /** One more DEPTH as soon as a PART of the last one has more than one POINT. */
    static void depthGrowsWithTheFirstOddPoint() {
        for (int count = 1; count <= 32; count++) {
            int depth = 32 - Integer.numberOfLeadingZeros(count - 1);
            check.due("told(4) of " + count, Shapes.level(count).told(4), depth);
        }
    }

    static void followsWhatComesAndGoes() {
        LiveHull hull = Shapes.square();
        toldIs(hull, 6, 11, 30, 8, 3);
        hull.remove(5);
        hull.remove(4);
        toldIs(hull, 4, 7, 16, 4, 2);
        hull.move(2, 11, 10);
        toldIs(hull, 4, 7, 19, 3, 2);
    }

    static void outsideIfWhatIsTooSmall() {
        int[] none = {-1, -6, Shapes.LEAST};
        check.refusedEach(Shapes::square, none, LiveHull::told, LiveHull.OUTSIDE);
    }

    static void outsideIfWhatIsTooLarge() {
        int[] none = {5, 6, Shapes.GREATEST};
        check.refusedEach(Shapes::square, none, LiveHull::told, LiveHull.OUTSIDE);
    }

    static void outsideWithoutAPoint() {
        check.refused(Shapes::none, "told(5)", hull -> hull.told(5), LiveHull.OUTSIDE);
        check.refused(Shapes::none, "told(-1)", hull -> hull.told(-1), LiveHull.OUTSIDE);
    }
}
