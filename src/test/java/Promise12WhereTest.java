/** Promise 12: "Where a place is: 0 OUT, 1 at a CORNER, 2 at an EDGE, 3 IN. OUTSIDE". */
public final class Promise12WhereTest {
    private static final int FAR = Shapes.FAR;
    private static final int OUT = 0, AT_CORNER = 1, AT_EDGE = 2, IN = 3;
    private static final Check check = new Check();

    public static void main(String[] args) throws IllegalAccessException {
        check.runAll(Promise12WhereTest.class);
    }

    /** Places are told by X and Y in turn. */
    private static void placesAre(LiveHull hull, int due, int... xy) {
        for (int k = 0; k + 1 < xy.length; k += 2) {
            check.due("where(" + xy[k] + ", " + xy[k + 1] + ")", hull.where(xy[k], xy[k + 1]), due);
        }
    }

    static void atEachCorner() {
        placesAre(Shapes.square(), AT_CORNER, 0, 0, 10, 0, 10, 10, 0, 10);
    }

    /** "straight between two corners of ROUND that follow one another", the last and the first too. */
    static void atEachEdge() {
        placesAre(Shapes.square(), AT_EDGE, 1, 0, 9, 0, 10, 1, 10, 9, 9, 10, 1, 10, 0, 9, 0, 1);
        placesAre(Shapes.with(0, 0, 8, 4, 4, 8), AT_EDGE, 2, 1, 6, 3, 7, 5, 5, 7, 3, 6, 1, 2);
    }

    static void inside() {
        placesAre(Shapes.square(), IN, 1, 1, 9, 1, 9, 9, 1, 9, 5, 5);
        placesAre(Shapes.with(0, 0, 8, 4, 4, 8), IN, 1, 1, 7, 4, 4, 7);
    }

    static void outBesideEachEdge() {
        placesAre(Shapes.square(), OUT, 5, -1, 11, 5, 5, 11, -1, 5);
        placesAre(Shapes.with(0, 0, 8, 4, 4, 8), OUT, 2, 0, 7, 6, 2, 5);
    }

    static void outBeyondEachCorner() {
        placesAre(Shapes.square(), OUT, -1, -1, 11, -1, 11, 11, -1, 11);
    }

    /** Straight with two corners, but not between them. */
    static void outInLineWithAnEdge() {
        placesAre(Shapes.square(), OUT, -1, 0, 11, 0, 10, -1, 10, 11, 11, 10, -1, 10, 0, 11, 0, -1);
        placesAre(Shapes.with(0, 0, 8, 4, 4, 8), OUT, -2, -1, 10, 5, 9, 3, 3, 9, 5, 10, -1, -2);
    }

    static void atAPointThatIsNoCorner() {
        placesAre(Shapes.square(), AT_EDGE, 5, 0);
        placesAre(Shapes.square(), IN, 5, 5);
    }

    static void outWithoutAPoint() {
        placesAre(new LiveHull(), OUT, 0, 0, FAR, FAR, -FAR, -FAR);
        LiveHull left = Shapes.one();
        left.remove(0);
        placesAre(left, OUT, 5, 5);
    }

    static void ofOnePoint() {
        placesAre(Shapes.one(), AT_CORNER, 5, 5);
        placesAre(Shapes.one(), OUT, 5, 6, 5, 4, 6, 5, 4, 5, 0, 0);
    }

    /** "if there are two corners, between these" */
    static void ofTwoCorners() {
        LiveHull hull = Shapes.two();
        placesAre(hull, AT_CORNER, 0, 0, 4, 2);
        placesAre(hull, AT_EDGE, 2, 1);
        placesAre(hull, OUT, 2, 2, 2, 0, 6, 3, -2, -1, 0, 2, 4, 0);
    }

    static void ofPointsOfOneX() {
        LiveHull hull = Shapes.with(3, 1, 3, 9, 3, 4);
        placesAre(hull, AT_CORNER, 3, 1, 3, 9);
        placesAre(hull, AT_EDGE, 3, 2, 3, 4, 3, 8);
        placesAre(hull, OUT, 3, 0, 3, 10, 2, 4, 4, 4);
    }

    static void ofPointsOfOneY() {
        LiveHull hull = Shapes.level(32);
        placesAre(hull, AT_CORNER, 0, 0, 31, 0);
        placesAre(hull, AT_EDGE, 1, 0, 30, 0);
        placesAre(hull, OUT, -1, 0, 32, 0, 15, 1, 15, -1);
    }

    static void atTheBounds() {
        LiveHull hull = Shapes.widest();
        placesAre(hull, AT_CORNER, FAR, FAR, -FAR, FAR, -FAR, -FAR, FAR, -FAR);
        placesAre(hull, AT_EDGE, FAR, 0, FAR, FAR - 1, 0, FAR, -FAR, 0, 0, -FAR);
        placesAre(hull, IN, 0, 0, FAR - 1, FAR - 1, -FAR + 1, -FAR + 1);
        placesAre(Shapes.one(), OUT, FAR, FAR, -FAR, FAR, -FAR, -FAR, FAR, -FAR);
    }

    /** "however wide" */
    static void tellsFinelyHoweverWide() {
        LiveHull half = Shapes.with(-FAR, -FAR, FAR, FAR - 1, FAR, -FAR);
        placesAre(half, OUT, 0, 0, -FAR, FAR);
        placesAre(half, IN, 0, -1, FAR - 1, FAR - 2);
        LiveHull slope = Shapes.with(-FAR, -FAR, FAR, FAR);
        placesAre(slope, AT_EDGE, 0, 0, FAR - 1, FAR - 1);
        placesAre(slope, OUT, FAR - 1, FAR, FAR, FAR - 1, -FAR, FAR, FAR, -FAR);
        LiveHull hair = Shapes.hair();
        hair.move(1, FAR, -FAR);
        placesAre(hair, OUT, 0, -1);
        placesAre(hair, IN, -1, -2);
        hair.remove(1);
        placesAre(hair, OUT, 0, -1, -1, -2);
    }

    static void outsideIfXIsTooSmall() {
        check.refusedEach(Shapes::square, Shapes.TOO_SMALL, (hull, x) -> hull.where(x, 1),
            LiveHull.OUTSIDE);
    }

    static void outsideIfXIsTooLarge() {
        check.refusedEach(Shapes::square, Shapes.TOO_LARGE, (hull, x) -> hull.where(x, 1),
            LiveHull.OUTSIDE);
    }

    static void outsideIfYIsTooSmall() {
        check.refusedEach(Shapes::square, Shapes.TOO_SMALL, (hull, y) -> hull.where(1, y),
            LiveHull.OUTSIDE);
    }

    static void outsideIfYIsTooLarge() {
        check.refusedEach(Shapes::square, Shapes.TOO_LARGE, (hull, y) -> hull.where(1, y),
            LiveHull.OUTSIDE);
    }

    static void outsideWithoutAPoint() {
        check.refused(Shapes::none, "X", hull -> hull.where(FAR + 1, 0), LiveHull.OUTSIDE);
        check.refused(Shapes::none, "Y", hull -> hull.where(0, -FAR - 1), LiveHull.OUTSIDE);
    }
}
