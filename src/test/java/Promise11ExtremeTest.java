/** Promise 11: EXTREME; "OUTSIDE: dx, dy as X, Y; NO: there is no POINT, or both are 0". */
public final class Promise11ExtremeTest {
    private static final int FAR = Shapes.FAR;
    private static final Check check = new Check();

    public static void main(String[] args) throws IllegalAccessException {
        check.runAll(Promise11ExtremeTest.class);
    }

    static void isTheFarthestCorner() {
        LiveHull hull = Shapes.with(0, 0, 3, 4, 6, 0, 3, -4, 3, 0);
        check.due("extreme(1, 0)", hull.extreme(1, 0), 2);
        check.due("extreme(-1, 0)", hull.extreme(-1, 0), 0);
        check.due("extreme(0, 1)", hull.extreme(0, 1), 1);
        check.due("extreme(0, -1)", hull.extreme(0, -1), 3);
        check.due("extreme(100, 74)", hull.extreme(100, 74), 2);
        check.due("extreme(100, 76)", hull.extreme(100, 76), 1);
    }

    static void isTheOnlyPoint() {
        check.due("extreme(-3, 1)", Shapes.one().extreme(-3, 1), 0);
        check.due("extreme(0, -1)", Shapes.with(-7, 9).extreme(0, -1), 0);
    }

    static void mayBeLessThanNothing() {
        LiveHull hull = Shapes.with(-5, -5, -9, -3, -8, -8);
        check.due("extreme(1, 0)", hull.extreme(1, 0), 0);
        check.due("extreme(0, 1)", hull.extreme(0, 1), 1);
    }

    /** "of as great the one of the least RANK" */
    static void isOfTheLeastRankOfAsGreat() {
        LiveHull hull = Shapes.with(10, 10, 10, 0, 0, 10, 0, 0);
        check.due("extreme(1, 0)", hull.extreme(1, 0), 1);
        check.due("extreme(-1, 0)", hull.extreme(-1, 0), 3);
        check.due("extreme(0, 1)", hull.extreme(0, 1), 2);
        check.due("extreme(0, -1)", hull.extreme(0, -1), 3);
    }

    static void isOfTheLeastRankAlongASlope() {
        LiveHull hull = Shapes.with(4, 2, 0, 0, 2, 1);
        check.due("extreme(-1, 2)", hull.extreme(-1, 2), 1);
        check.due("extreme(1, -2)", hull.extreme(1, -2), 1);
        LiveHull falling = Shapes.with(0, 4, 4, 0, 2, 2, 0, 0);
        check.due("extreme(1, 1)", falling.extreme(1, 1), 0);
    }

    /** "dx, dy as X, Y": the bounds themselves are not OUTSIDE. */
    static void takesBothAtTheirBounds() {
        LiveHull hull = Shapes.widest();
        check.due("greatest, greatest", hull.extreme(FAR, FAR), 2);
        check.due("least, least", hull.extreme(-FAR, -FAR), 0);
        check.due("least, greatest", hull.extreme(-FAR, FAR), 3);
        check.due("greatest, least", hull.extreme(FAR, -FAR), 1);
    }

    /** "however wide" */
    static void tellsFinelyHoweverWide() {
        LiveHull hull = Shapes.with(FAR - 1, FAR, FAR, FAR - 1, -FAR, -FAR);
        check.due("as great", hull.extreme(FAR, FAR), 0);
        check.due("a little more X", hull.extreme(FAR, FAR - 1), 1);
        check.due("a little more Y", hull.extreme(FAR - 1, FAR), 0);
    }

    static void outsideIfDxIsTooSmall() {
        check.refusedEach(Shapes::two, Shapes.TOO_SMALL, (hull, dx) -> hull.extreme(dx, 1),
            LiveHull.OUTSIDE);
    }

    static void outsideIfDxIsTooLarge() {
        check.refusedEach(Shapes::two, Shapes.TOO_LARGE, (hull, dx) -> hull.extreme(dx, 1),
            LiveHull.OUTSIDE);
    }

    static void outsideIfDyIsTooSmall() {
        check.refusedEach(Shapes::two, Shapes.TOO_SMALL, (hull, dy) -> hull.extreme(1, dy),
            LiveHull.OUTSIDE);
    }

    static void outsideIfDyIsTooLarge() {
        check.refusedEach(Shapes::two, Shapes.TOO_LARGE, (hull, dy) -> hull.extreme(1, dy),
            LiveHull.OUTSIDE);
    }

    static void noWithoutAPoint() {
        check.refused(Shapes::none, "extreme(1, 0)", hull -> hull.extreme(1, 0), LiveHull.NO);
        check.refused(Shapes::none, "extreme(0, 0)", hull -> hull.extreme(0, 0), LiveHull.NO);
    }

    static void noOnceTheLastHasGone() {
        LiveHull hull = Shapes.one();
        hull.remove(0);
        check.due("extreme(1, 1)", hull.extreme(1, 1), LiveHull.NO);
    }

    static void noIfBothAreZero() {
        check.refused(Shapes::one, "of one", hull -> hull.extreme(0, 0), LiveHull.NO);
        check.refused(Shapes::square, "of more", hull -> hull.extreme(0, 0), LiveHull.NO);
    }

    static void oneOfThemMayBeZero() {
        check.due("extreme(0, 7)", Shapes.triangle().extreme(0, 7), 2);
        check.due("extreme(7, 0)", Shapes.triangle().extreme(7, 0), 1);
    }

    /** "the first of these that fits": OUTSIDE, NO. */
    static void outsideAheadOfNo() {
        check.refused(Shapes::none, "dx", hull -> hull.extreme(FAR + 1, 0), LiveHull.OUTSIDE);
        check.refused(Shapes::none, "dy", hull -> hull.extreme(0, -FAR - 1), LiveHull.OUTSIDE);
    }
}
