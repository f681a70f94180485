/** Promise 5: what a POINT is; "UNKNOWN; OUTSIDE". */
public final class Promise05PointTest {
    private static final int FAR = Shapes.FAR;
    private static final int ABOVE = 3, BELOW = 4;
    private static final Check check = new Check();

    public static void main(String[] args) throws IllegalAccessException {
        check.runAll(Promise05PointTest.class);
    }

    private static void topsAre(LiveHull hull, int what, int... due) {
        for (int id = 0; id < due.length; id++) {
            check.due("point(" + id + ", " + what + ")", hull.point(id, what), due[id]);
        }
    }

    static void tellsXAndY() {
        LiveHull hull = Shapes.with(3, -4, 0, 0, -1, -2);
        check.due("X of 0", hull.point(0, 0), 3);
        check.due("Y of 0", hull.point(0, 1), -4);
        check.due("X of 1", hull.point(1, 0), 0);
        check.due("X of 2, which is no refusal", hull.point(2, 0), -1);
        check.due("Y of 2, which is no refusal", hull.point(2, 1), -2);
    }

    static void tellsXAndYAtTheirBounds() {
        LiveHull hull = Shapes.with(-FAR, FAR, FAR, -FAR);
        check.due("the least X", hull.point(0, 0), -FAR);
        check.due("the greatest Y", hull.point(0, 1), FAR);
        check.due("the greatest X", hull.point(1, 0), FAR);
        check.due("the least Y", hull.point(1, 1), -FAR);
    }

    /** "RANK: from 0 on, by X, then by Y" */
    static void tellsTheRank() {
        LiveHull hull = Shapes.with(3, -4, -FAR, FAR, 3, -5, FAR, -FAR);
        check.due("the first", hull.point(1, 2), 0);
        check.due("of one X the lower", hull.point(2, 2), 1);
        check.due("of one X the upper", hull.point(0, 2), 2);
        check.due("the last", hull.point(3, 2), 3);
        check.due("the last of 32", Shapes.level(32).point(31, 2), 31);
        check.due("the only one", Shapes.one().point(0, 2), 0);
    }

    static void topOfTheOnlyOneIsZero() {
        topsAre(Shapes.one(), ABOVE, 0);
        topsAre(Shapes.one(), BELOW, 0);
    }

    /** Of one X the upper one is hidden from below down to its own PART, and the other way round. */
    static void topOfTwoOfOneX() {
        LiveHull hull = Shapes.with(4, 4, 4, 5);
        topsAre(hull, ABOVE, 1, 0);
        topsAre(hull, BELOW, 0, 1);
    }

    static void topOfTwoOfOneY() {
        LiveHull hull = Shapes.with(4, 4, 5, 4);
        topsAre(hull, ABOVE, 0, 0);
        topsAre(hull, BELOW, 0, 0);
    }

    static void topOfEachSideIsItsOwn() {
        LiveHull hull = Shapes.tent();
        topsAre(hull, ABOVE, 0, 2, 0, 0, 2, 0);
        topsAre(hull, BELOW, 0, 1, 1, 1, 1, 0);
    }

    /** "POINTS that lie straight between two others are no corners" */
    static void topOfOneStraightBetweenTwo() {
        LiveHull hull = Shapes.with(0, 0, 1, 1, 2, 2, 3, 3, 4, 4);
        topsAre(hull, ABOVE, 0, 2, 1, 1, 0);
        topsAre(hull, BELOW, 0, 2, 1, 1, 0);
    }

    static void topIsTheGreatestDepthAtMost() {
        LiveHull hull = Shapes.column(32);
        check.due("the lowest: ABOVE", hull.point(0, ABOVE), 5);
        check.due("the lowest: BELOW", hull.point(0, BELOW), 0);
        check.due("the highest: ABOVE", hull.point(31, ABOVE), 0);
        check.due("the highest: BELOW", hull.point(31, BELOW), 5);
        check.due("over the middle: BELOW", hull.point(16, BELOW), 1);
        check.due("under the middle: ABOVE", hull.point(15, ABOVE), 1);
    }

    /** "however wide" */
    static void topOfOneNearlyStraightBetweenTwo() {
        topsAre(Shapes.hair(), ABOVE, 0, 0, 0);
        topsAre(Shapes.hair(), BELOW, 0, 1, 0);
    }

    static void topFollowsWhatComesAndGoes() {
        LiveHull hull = Shapes.with(0, 0, 5, 1, 10, 0);
        check.due("a corner", hull.point(1, ABOVE), 0);
        hull.add(5, 9);
        check.due("hidden", hull.point(1, ABOVE), 1);
        hull.remove(3);
        check.due("a corner again", hull.point(1, ABOVE), 0);
    }

    static void unknownWithoutAPoint() {
        for (int what = 0; what < 5; what++) {
            int asked = what;
            check.refused(Shapes::none, "point(0, " + what + ")", hull -> hull.point(0, asked),
                LiveHull.UNKNOWN);
        }
    }

    static void unknownIfItHasGone() {
        LiveHull hull = Shapes.triangle();
        hull.remove(1);
        check.due("point(1, 0)", hull.point(1, 0), LiveHull.UNKNOWN);
        check.due("point(1, 3)", hull.point(1, 3), LiveHull.UNKNOWN);
    }

    static void unknownIfItIsNoId() {
        for (int k = 0; k < 5; k++) {
            int what = k;
            Check.Call call = (hull, id) -> hull.point(id, what);
            check.refusedEach(Shapes::one, Shapes.NO_IDS, call, LiveHull.UNKNOWN);
            check.refusedEach(Shapes::full, Shapes.NO_IDS, call, LiveHull.UNKNOWN);
        }
    }

    static void outsideIfWhatIsTooSmall() {
        check.refused(Shapes::two, "point(0, -1)", hull -> hull.point(0, -1), LiveHull.OUTSIDE);
        check.refused(Shapes::two, "least", hull -> hull.point(0, Shapes.LEAST), LiveHull.OUTSIDE);
    }

    static void outsideIfWhatIsTooLarge() {
        check.refused(Shapes::two, "point(0, 5)", hull -> hull.point(0, 5), LiveHull.OUTSIDE);
        check.refused(Shapes::two, "greatest", hull -> hull.point(0, Shapes.GREATEST),
            LiveHull.OUTSIDE);
    }

    /** "the first of these that fits": UNKNOWN, OUTSIDE. */
    static void unknownAheadOfOutside() {
        check.refused(Shapes::two, "point(2, 5)", hull -> hull.point(2, 5), LiveHull.UNKNOWN);
        check.refused(Shapes::two, "point(-1, -1)", hull -> hull.point(-1, -1), LiveHull.UNKNOWN);
        check.refused(Shapes::none, "point(0, 5)", hull -> hull.point(0, 5), LiveHull.UNKNOWN);
    }
}
