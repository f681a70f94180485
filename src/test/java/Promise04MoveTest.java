/** Promise 4: a POINT goes to another place; "UNKNOWN; OUTSIDE; NO: one is there (it, too)". */
public final class Promise04MoveTest {
    private static final int FAR = Shapes.FAR;
    private static final Check check = new Check();

    public static void main(String[] args) throws IllegalAccessException {
        check.runAll(Promise04MoveTest.class);
    }

    /** "its ID stays" */
    static void keepsTheId() {
        LiveHull hull = Shapes.with(0, 0, 5, 5, 2, 9);
        check.due("move(0, 7, 8)", hull.move(0, 7, 8), 1);
        check.due("X", hull.point(0, 0), 7);
        check.due("Y", hull.point(0, 1), 8);
        check.due("told(0)", hull.told(0), 3);
        check.due("the next ID", hull.add(1, 1), 3);
    }

    static void keepsTheIdIfALesserOneIsFree() {
        LiveHull hull = Shapes.triangle();
        hull.remove(0);
        check.due("move(2, 7, 8)", hull.move(2, 7, 8), 1);
        check.due("X", hull.point(2, 0), 7);
        check.due("the lesser one", hull.point(0, 0), LiveHull.UNKNOWN);
        check.due("the next ID", hull.add(1, 1), 0);
    }

    static void changesTheRank() {
        LiveHull hull = Shapes.with(0, 0, 5, 5, 2, 9);
        hull.move(0, 7, 7);
        check.due("the last now", hull.ranked(2), 0);
        check.due("ahead of it", hull.ranked(1), 1);
        check.due("the first now", hull.ranked(0), 2);
        hull.move(0, 2, 8);
        check.due("of one X by Y", hull.ranked(0), 0);
    }

    static void endsAsIfItHadComeThere() {
        check.same("", () -> Shapes.with(0, 0, 10, 0, 3, 12, 0, 10), () -> {
            LiveHull hull = Shapes.with(0, 0, 10, 0, 4, 4, 0, 10);
            hull.move(2, 3, 12);
            return hull;
        });
    }

    static void movesTheOnlyOne() {
        LiveHull hull = Shapes.one();
        check.due("move(0, 5, 6)", hull.move(0, 5, 6), 1);
        check.due("Y", hull.point(0, 1), 6);
        check.due("where it was", hull.where(5, 5), 0);
        check.due("told(0)", hull.told(0), 1);
    }

    static void movesOneOfThirtyTwo() {
        LiveHull hull = Shapes.full();
        check.due("to the end", hull.move(0, 99, 99), 1);
        check.due("ranked(31)", hull.ranked(31), 0);
        check.due("to the beginning", hull.move(31, -99, 99), 1);
        check.due("ranked(0)", hull.ranked(0), 31);
        check.due("told(0)", hull.told(0), 32);
    }

    static void takesBothAtTheirBounds() {
        LiveHull hull = Shapes.one();
        check.due("least, greatest", hull.move(0, -FAR, FAR), 1);
        check.due("X", hull.point(0, 0), -FAR);
        check.due("Y", hull.point(0, 1), FAR);
        check.due("greatest, least", hull.move(0, FAR, -FAR), 1);
        check.due("X", hull.point(0, 0), FAR);
        check.due("Y", hull.point(0, 1), -FAR);
    }

    static void aPlaceThatWasLeftIsFree() {
        LiveHull hull = Shapes.triangle();
        hull.move(0, 4, 4);
        check.due("one was moved", hull.move(1, 0, 0), 1);
        hull.remove(2);
        check.due("one was removed", hull.move(1, 0, 9), 1);
        check.due("and back", hull.move(0, 0, 0), 1);
    }

    static void unknownWithoutAPoint() {
        check.refused(Shapes::none, "move(0, 1, 1)", hull -> hull.move(0, 1, 1), LiveHull.UNKNOWN);
    }

    static void unknownIfItHasGone() {
        LiveHull hull = Shapes.triangle();
        hull.remove(1);
        check.due("move(1, 3, 3)", hull.move(1, 3, 3), LiveHull.UNKNOWN);
        check.due("told(0)", hull.told(0), 2);
    }

    static void unknownIfItIsNoId() {
        Check.Call call = (hull, id) -> hull.move(id, 50, 50);
        check.refusedEach(Shapes::one, Shapes.NO_IDS, call, LiveHull.UNKNOWN);
        check.refusedEach(Shapes::full, Shapes.NO_IDS, call, LiveHull.UNKNOWN);
    }

    static void outsideIfXIsTooSmall() {
        check.refusedEach(Shapes::triangle, Shapes.TOO_SMALL, (hull, x) -> hull.move(0, x, 1),
            LiveHull.OUTSIDE);
    }

    static void outsideIfXIsTooLarge() {
        check.refusedEach(Shapes::triangle, Shapes.TOO_LARGE, (hull, x) -> hull.move(0, x, 1),
            LiveHull.OUTSIDE);
    }

    static void outsideIfYIsTooSmall() {
        check.refusedEach(Shapes::triangle, Shapes.TOO_SMALL, (hull, y) -> hull.move(1, 1, y),
            LiveHull.OUTSIDE);
    }

    static void outsideIfYIsTooLarge() {
        check.refusedEach(Shapes::triangle, Shapes.TOO_LARGE, (hull, y) -> hull.move(1, 1, y),
            LiveHull.OUTSIDE);
    }

    static void noWhereAnotherIs() {
        check.refused(Shapes::two, "move(0, 4, 2)", hull -> hull.move(0, 4, 2), LiveHull.NO);
        check.refused(Shapes::square, "to one inside", hull -> hull.move(0, 5, 5), LiveHull.NO);
        check.refused(Shapes::full, "of 32", hull -> hull.move(31, 0, 0), LiveHull.NO);
    }

    /** "(it, too)" */
    static void noWhereItIsItself() {
        check.refused(Shapes::one, "the only one", hull -> hull.move(0, 5, 5), LiveHull.NO);
        check.refused(Shapes::square, "a corner", hull -> hull.move(2, 10, 10), LiveHull.NO);
        check.refused(Shapes::square, "one inside", hull -> hull.move(5, 5, 5), LiveHull.NO);
    }

    /** "the first of these that fits": UNKNOWN, OUTSIDE, NO. */
    static void unknownAheadOfOutside() {
        check.refused(Shapes::two, "X beyond", hull -> hull.move(2, FAR + 1, 0), LiveHull.UNKNOWN);
        check.refused(Shapes::two, "Y beyond", hull -> hull.move(-1, 0, -FAR - 1), LiveHull.UNKNOWN);
    }

    static void unknownAheadOfNo() {
        check.refused(Shapes::two, "move(2, 0, 0)", hull -> hull.move(2, 0, 0), LiveHull.UNKNOWN);
    }
}
