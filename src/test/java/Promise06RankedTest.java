/** Promise 6: "The ID of the POINT of a RANK; NONE". */
public final class Promise06RankedTest {
    private static final int FAR = Shapes.FAR;
    private static final Check check = new Check();

    public static void main(String[] args) throws IllegalAccessException {
        check.runAll(Promise06RankedTest.class);
    }

    private static void ranksAre(LiveHull hull, int... ids) {
        for (int rank = 0; rank < ids.length; rank++) {
            check.due("ranked(" + rank + ")", hull.ranked(rank), ids[rank]);
            check.due("its RANK", hull.point(ids[rank], 2), rank);
        }
    }

    /** "by X, then by Y" */
    static void goesByXThenByY() {
        ranksAre(Shapes.with(2, 2, -1, 7, 2, -2, -1, -7, 0, 0, 2, 0), 3, 1, 4, 2, 5, 0);
    }

    static void goesByYAloneOfOneX() {
        ranksAre(Shapes.with(3, 5, 3, 1, 3, 9, 3, -FAR, 3, FAR), 3, 1, 0, 2, 4);
    }

    static void goesByXAloneWhateverY() {
        ranksAre(Shapes.with(1, -FAR, 0, FAR, -1, 0), 2, 1, 0);
    }

    static void goesFromBoundToBound() {
        ranksAre(Shapes.with(FAR, FAR, -FAR, FAR, 0, 0, FAR, -FAR, -FAR, -FAR), 4, 1, 2, 3, 0);
    }

    static void followsWhatComesAndGoes() {
        LiveHull hull = Shapes.with(1, 1, 2, 2, 3, 3);
        hull.remove(0);
        ranksAre(hull, 1, 2);
        hull.add(4, 4);
        ranksAre(hull, 1, 2, 0);
        hull.move(1, 5, 5);
        ranksAre(hull, 2, 0, 1);
    }

    static void hasTheFirstAndTheLastOfThirtyTwo() {
        LiveHull hull = Shapes.level(32);
        check.due("ranked(0)", hull.ranked(0), 0);
        check.due("ranked(31)", hull.ranked(31), 31);
    }

    static void noneWithoutAPoint() {
        check.refused(Shapes::none, "ranked(0)", hull -> hull.ranked(0), LiveHull.NONE);
    }

    static void noneIfItIsTooSmall() {
        int[] ranks = {-1, -2, -6, Shapes.LEAST};
        check.refusedEach(Shapes::two, ranks, LiveHull::ranked, LiveHull.NONE);
        check.refusedEach(Shapes::full, ranks, LiveHull::ranked, LiveHull.NONE);
    }

    static void noneIfItIsTooLarge() {
        int[] ranks = {2, 3, 31, 32, Shapes.GREATEST};
        check.refusedEach(Shapes::two, ranks, LiveHull::ranked, LiveHull.NONE);
    }

    static void nonePastThirtyTwo() {
        check.due("ranked(32)", Shapes.full().ranked(32), LiveHull.NONE);
        check.due("ranked(33)", Shapes.full().ranked(33), LiveHull.NONE);
    }

    static void noneOnceTheLastHasGone() {
        LiveHull hull = Shapes.two();
        hull.remove(0);
        check.due("ranked(1)", hull.ranked(1), LiveHull.NONE);
        hull.remove(1);
        check.due("ranked(0)", hull.ranked(0), LiveHull.NONE);
    }
}
