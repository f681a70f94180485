/** Promise 13: TOUCH; "OUTSIDE: the place, the side; NO: there is no POINT; STATE: not OUT". */
public final class Promise13TouchTest {
    private static final int FAR = Shapes.FAR;
    private static final Check check = new Check();

    public static void main(String[] args) throws IllegalAccessException {
        check.runAll(Promise13TouchTest.class);
    }

    private static void touchIs(LiveHull hull, int x, int y, int left, int right) {
        check.due("touch(" + x + ", " + y + ", 0)", hull.touch(x, y, 0), left);
        check.due("touch(" + x + ", " + y + ", 1)", hull.touch(x, y, 1), right);
    }

    /** "all POINTS lie to the left of the line from the place to it (side 0), to the right" */
    static void hasAllToOneSide() {
        LiveHull hull = Shapes.square();
        touchIs(hull, 20, 5, 2, 1);
        touchIs(hull, 5, 20, 3, 2);
        touchIs(hull, -10, 5, 0, 3);
        touchIs(hull, 5, -10, 1, 0);
        touchIs(hull, 20, 20, 3, 1);
        touchIs(hull, -10, -10, 1, 3);
    }

    static void isTheOnlyPoint() {
        touchIs(Shapes.one(), 1, 1, 0, 0);
        touchIs(Shapes.one(), 5, 6, 0, 0);
        touchIs(Shapes.one(), -FAR, FAR, 0, 0);
    }

    static void isEachOfTwo() {
        touchIs(Shapes.two(), 2, 5, 0, 1);
        touchIs(Shapes.two(), 2, -5, 1, 0);
    }

    /** "of two such the nearer one" */
    static void isTheNearerOfTwo() {
        LiveHull hull = Shapes.square();
        touchIs(hull, 20, 0, 2, 1);
        touchIs(hull, -5, 0, 0, 3);
        touchIs(hull, 0, 30, 3, 2);
        touchIs(hull, 10, -3, 1, 0);
        touchIs(hull, 30, 10, 2, 1);
        touchIs(hull, 0, -7, 1, 0);
        touchIs(hull, -5, 10, 0, 3);
        touchIs(hull, 10, 17, 3, 2);
    }

    /** One that lies straight between two others is no corner, however near it is. */
    static void isACornerAlone() {
        touchIs(Shapes.with(10, 0, 12, 2, 14, 4, 20, 0), 12, -2, 3, 0);
        touchIs(Shapes.with(10, 0, 11, 0, 12, 0, 11, 5), 0, 0, 0, 3);
        touchIs(Shapes.with(2, 0, 10, 0, 10, 8, 4, 2), 0, -2, 1, 0);
    }

    /** "If all POINTS and the place lie straight: the nearest" */
    static void isTheNearestIfAllLieStraight() {
        LiveHull slope = Shapes.with(0, 0, 2, 1, 4, 2);
        touchIs(slope, 6, 3, 2, 2);
        touchIs(slope, -2, -1, 0, 0);
        LiveHull column = Shapes.with(3, 1, 3, 9, 3, 4);
        touchIs(column, 3, 0, 0, 0);
        touchIs(column, 3, 10, 1, 1);
        touchIs(Shapes.level(32), 40, 0, 31, 31);
        touchIs(Shapes.level(32), -40, 0, 0, 0);
    }

    static void isAnEndIfThePointsAloneLieStraight() {
        LiveHull slope = Shapes.with(0, 0, 2, 1, 4, 2);
        touchIs(slope, 2, 5, 0, 2);
        touchIs(slope, 2, -5, 2, 0);
        LiveHull column = Shapes.with(3, 1, 3, 9, 3, 4);
        touchIs(column, 9, 4, 1, 0);
        touchIs(column, -9, 4, 0, 1);
    }

    /** "however wide" */
    static void tellsFinelyHoweverWide() {
        LiveHull hull = Shapes.with(-FAR, FAR, FAR, FAR, FAR, FAR - 1);
        touchIs(hull, -FAR, -FAR, 2, 0);
        touchIs(hull, FAR, -FAR, 2, 0);
        LiveHull far = Shapes.with(FAR - 1, FAR - 1, FAR, FAR);
        touchIs(far, -FAR, -FAR, 0, 0);
        LiveHull bent = Shapes.with(FAR - 1, FAR - 1, FAR, FAR - 1);
        touchIs(bent, -FAR, -FAR, 1, 0);
        touchIs(bent, -FAR, FAR, 0, 1);
        LiveHull hair = Shapes.hair();
        hair.remove(1);
        touchIs(hair, 0, -1, 0, 2);
        touchIs(hair, -1, -2, 2, 0);
    }

    static void takesThePlaceAtItsBounds() {
        LiveHull hull = Shapes.square();
        touchIs(hull, -FAR, -FAR, 1, 3);
        touchIs(hull, FAR, FAR, 3, 1);
        touchIs(hull, FAR, -FAR, 2, 0);
        touchIs(hull, -FAR, FAR, 0, 2);
    }

    static void stateAtACorner() {
        for (int s = 0; s < 2; s++) {
            int side = s;
            check.refused(Shapes::square, "of four", hull -> hull.touch(10, 10, side),
                LiveHull.STATE);
            check.refused(Shapes::two, "of two", hull -> hull.touch(4, 2, side), LiveHull.STATE);
            check.refused(Shapes::one, "of one", hull -> hull.touch(5, 5, side), LiveHull.STATE);
        }
    }

    static void stateAtAnEdge() {
        for (int s = 0; s < 2; s++) {
            int side = s;
            check.refused(Shapes::square, "of four", hull -> hull.touch(3, 0, side), LiveHull.STATE);
            check.refused(Shapes::square, "the last one", hull -> hull.touch(0, 3, side),
                LiveHull.STATE);
            check.refused(Shapes::two, "of two", hull -> hull.touch(2, 1, side), LiveHull.STATE);
        }
    }

    static void stateInside() {
        check.refused(Shapes::square, "side 0", hull -> hull.touch(5, 6, 0), LiveHull.STATE);
        check.refused(Shapes::square, "side 1", hull -> hull.touch(5, 5, 1), LiveHull.STATE);
    }

    static void noWithoutAPoint() {
        check.refused(Shapes::none, "side 0", hull -> hull.touch(5, 5, 0), LiveHull.NO);
        check.refused(Shapes::none, "side 1", hull -> hull.touch(0, 0, 1), LiveHull.NO);
        LiveHull left = Shapes.one();
        left.remove(0);
        check.due("once the last has gone", left.touch(5, 5, 0), LiveHull.NO);
    }

    static void outsideIfXIsTooSmall() {
        check.refusedEach(Shapes::square, Shapes.TOO_SMALL, (hull, x) -> hull.touch(x, 1, 0),
            LiveHull.OUTSIDE);
    }

    static void outsideIfXIsTooLarge() {
        check.refusedEach(Shapes::square, Shapes.TOO_LARGE, (hull, x) -> hull.touch(x, 1, 1),
            LiveHull.OUTSIDE);
    }

    static void outsideIfYIsTooSmall() {
        check.refusedEach(Shapes::square, Shapes.TOO_SMALL, (hull, y) -> hull.touch(1, y, 0),
            LiveHull.OUTSIDE);
    }

    static void outsideIfYIsTooLarge() {
        check.refusedEach(Shapes::square, Shapes.TOO_LARGE, (hull, y) -> hull.touch(1, y, 1),
            LiveHull.OUTSIDE);
    }

    static void outsideIfTheSideIsTooSmall() {
        check.refused(Shapes::square, "touch(20, 5, -1)", hull -> hull.touch(20, 5, -1),
            LiveHull.OUTSIDE);
        check.refused(Shapes::square, "least", hull -> hull.touch(20, 5, Shapes.LEAST),
            LiveHull.OUTSIDE);
    }

    static void outsideIfTheSideIsTooLarge() {
        check.refused(Shapes::square, "touch(20, 5, 2)", hull -> hull.touch(20, 5, 2),
            LiveHull.OUTSIDE);
        check.refused(Shapes::square, "greatest", hull -> hull.touch(20, 5, Shapes.GREATEST),
            LiveHull.OUTSIDE);
    }

    /** "the first of these that fits": OUTSIDE, NO, STATE. */
    static void outsideAheadOfNo() {
        check.refused(Shapes::none, "the side", hull -> hull.touch(5, 5, 2), LiveHull.OUTSIDE);
        check.refused(Shapes::none, "X", hull -> hull.touch(FAR + 1, 5, 0), LiveHull.OUTSIDE);
        check.refused(Shapes::none, "Y", hull -> hull.touch(5, -FAR - 1, 0), LiveHull.OUTSIDE);
    }

    static void outsideAheadOfState() {
        check.refused(Shapes::square, "inside", hull -> hull.touch(5, 5, 2), LiveHull.OUTSIDE);
        check.refused(Shapes::square, "at an edge", hull -> hull.touch(3, 0, -1), LiveHull.OUTSIDE);
        check.refused(Shapes::square, "at a corner", hull -> hull.touch(0, 0, 2), LiveHull.OUTSIDE);
    }
}
