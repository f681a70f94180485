/** Promise 2: a POINT comes; "OUTSIDE; NO: one is there; FULL". */
public final class Promise02AddTest {
    private static final int FAR = Shapes.FAR;
    private static final Check check = new Check();

    public static void main(String[] args) throws IllegalAccessException {
        check.runAll(Promise02AddTest.class);
    }

    static void givesIdsInTurn() {
        LiveHull hull = new LiveHull();
        for (int k = 0; k < 32; k++) {
            check.due("add " + k, hull.add(-k, k), k);
            check.due("told(0)", hull.told(0), k + 1);
        }
    }

    /** "the least of 0 to 31 that none had when it came" */
    static void givesTheLeastFreeId() {
        LiveHull hull = Shapes.full();
        hull.remove(20);
        hull.remove(0);
        hull.remove(31);
        check.due("the least one", hull.add(100, 0), 0);
        check.due("the next one", hull.add(101, 0), 20);
        check.due("the last one", hull.add(102, 0), 31);
    }

    /** "as long as it is there": an ID stays with its POINT when others come and go. */
    static void leavesTheOtherIds() {
        LiveHull hull = Shapes.with(5, 5, 9, 1);
        hull.remove(0);
        check.due("add ahead of it", hull.add(-4, 3), 0);
        check.due("its X", hull.point(1, 0), 9);
        check.due("its Y", hull.point(1, 1), 1);
    }

    static void takesBothAtTheirBounds() {
        LiveHull hull = new LiveHull();
        check.due("add(least, least)", hull.add(-FAR, -FAR), 0);
        check.due("add(greatest, greatest)", hull.add(FAR, FAR), 1);
        check.due("add(least, greatest)", hull.add(-FAR, FAR), 2);
        check.due("add(greatest, least)", hull.add(FAR, -FAR), 3);
        check.due("X of 0", hull.point(0, 0), -FAR);
        check.due("Y of 1", hull.point(1, 1), FAR);
    }

    static void outsideIfXIsTooSmall() {
        check.refusedEach(Shapes::triangle, Shapes.TOO_SMALL, (hull, x) -> hull.add(x, 1),
            LiveHull.OUTSIDE);
    }

    static void outsideIfXIsTooLarge() {
        check.refusedEach(Shapes::triangle, Shapes.TOO_LARGE, (hull, x) -> hull.add(x, 1),
            LiveHull.OUTSIDE);
    }

    static void outsideIfYIsTooSmall() {
        check.refusedEach(Shapes::triangle, Shapes.TOO_SMALL, (hull, y) -> hull.add(1, y),
            LiveHull.OUTSIDE);
    }

    static void outsideIfYIsTooLarge() {
        check.refusedEach(Shapes::triangle, Shapes.TOO_LARGE, (hull, y) -> hull.add(1, y),
            LiveHull.OUTSIDE);
    }

    static void outsideWithoutAPoint() {
        check.refused(Shapes::none, "add(far, 0)", hull -> hull.add(FAR + 1, 0), LiveHull.OUTSIDE);
        check.refused(Shapes::none, "add(0, far)", hull -> hull.add(0, -FAR - 1), LiveHull.OUTSIDE);
    }

    /** "no two at one place" */
    static void noWhereOneIs() {
        check.refused(Shapes::one, "at the only one", hull -> hull.add(5, 5), LiveHull.NO);
        check.refused(Shapes::square, "at a corner", hull -> hull.add(10, 10), LiveHull.NO);
        check.refused(Shapes::square, "at one at an edge", hull -> hull.add(5, 0), LiveHull.NO);
        check.refused(Shapes::square, "at one inside", hull -> hull.add(5, 5), LiveHull.NO);
        check.refused(Shapes::widest, "at the bounds", hull -> hull.add(FAR, -FAR), LiveHull.NO);
    }

    static void sameXOrSameYAloneIsNoOneThere() {
        LiveHull hull = Shapes.with(3, 8);
        check.due("the same X", hull.add(3, 9), 1);
        check.due("the same Y", hull.add(4, 8), 2);
        check.due("X and Y the other way", hull.add(8, 3), 3);
    }

    static void aPlaceThatWasLeftIsFree() {
        LiveHull hull = Shapes.triangle();
        hull.remove(1);
        check.due("one was removed", hull.add(9, 0), 1);
        hull.move(2, 7, 7);
        check.due("one was moved", hull.add(0, 9), 3);
    }

    /** "32 at most" */
    static void fullWithThirtyTwo() {
        LiveHull hull = Shapes.level(31);
        check.due("the last one", hull.add(50, 50), 31);
        check.due("told(0)", hull.told(0), 32);
        check.due("one more", hull.add(51, 50), LiveHull.FULL);
        check.refused(Shapes::full, "add(50, 50)", full -> full.add(50, 50), LiveHull.FULL);
        check.refused(Shapes::full, "add(-50, -50)", full -> full.add(-50, -50), LiveHull.FULL);
    }

    static void notFullOnceOneHasGone() {
        LiveHull hull = Shapes.full();
        check.due("full", hull.add(50, 50), LiveHull.FULL);
        hull.remove(13);
        check.due("no more", hull.add(50, 50), 13);
        check.due("full again", hull.add(51, 51), LiveHull.FULL);
    }

    /** "the first of these that fits": OUTSIDE, NO, FULL. */
    static void outsideAheadOfFull() {
        check.refused(Shapes::full, "X beyond", hull -> hull.add(FAR + 1, 0), LiveHull.OUTSIDE);
        check.refused(Shapes::full, "Y beyond", hull -> hull.add(0, -FAR - 1), LiveHull.OUTSIDE);
    }

    static void noAheadOfFull() {
        check.refused(Shapes::full, "add(3, 3)", hull -> hull.add(3, 3), LiveHull.NO);
    }
}
