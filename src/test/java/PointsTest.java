/** Promises 1 to 6: POINTS come, go, move, and have IDs and RANKS. */
public final class PointsTest {
    private static final int FAR = 1000000000;
    private static final Check check = new Check();

    public static void main(String[] args) {
        newObject();
        addGivesIds();
        addRefuses();
        removeTellsHowMany();
        moveKeepsTheId();
        moveRefuses();
        pointTells();
        pointTellsTop();
        pointRefuses();
        rankedFollowsXThenY();
        refusedCallsChangeNothing();
        check.end();
    }

    private static LiveHull full() {
        LiveHull hull = new LiveHull();
        for (int k = 0; k < 32; k++) {
            hull.add(k % 7, k);
        }
        return hull;
    }

    private static void newObject() {
        check.about("promise 1");
        LiveHull hull = new LiveHull();
        check.due("told(0)", hull.told(0), 0);
        check.due("told(1)", hull.told(1), 0);
        check.due("told(4)", hull.told(4), LiveHull.NONE);
        check.due("round(-1)", hull.round(-1), 0);
        check.due("ranked(0)", hull.ranked(0), LiveHull.NONE);
        check.due("part(1, 0)", hull.part(1, 0), LiveHull.UNKNOWN);
        for (int id = -1; id <= 32; id++) {
            check.due("point(" + id + ", 0)", hull.point(id, 0), LiveHull.UNKNOWN);
        }
        check.due("restore(0)", hull.restore(0), LiveHull.STATE);
        check.due("restore(1)", hull.restore(1), LiveHull.STATE);
        hull.add(1, 1);
        check.due("told(0) of another new object", new LiveHull().told(0), 0);
    }

    private static void addGivesIds() {
        check.about("promise 2");
        LiveHull hull = new LiveHull();
        for (int k = 0; k < 32; k++) {
            check.due("add " + k, hull.add(-k, k), k);
        }
        hull.remove(20);
        hull.remove(7);
        hull.remove(31);
        check.due("add, the least ID", hull.add(100, 0), 7);
        check.due("add, the next one", hull.add(101, 0), 20);
        check.due("add, the last one", hull.add(102, 0), 31);
        check.due("add, none left", hull.add(103, 0), LiveHull.FULL);
    }

    private static void addRefuses() {
        check.about("promise 2, refused");
        LiveHull hull = new LiveHull();
        int[] beyond = {FAR + 1, -FAR - 1, Integer.MAX_VALUE, Integer.MIN_VALUE};
        for (int far : beyond) {
            check.due("add(" + far + ", 0)", hull.add(far, 0), LiveHull.OUTSIDE);
            check.due("add(0, " + far + ")", hull.add(0, far), LiveHull.OUTSIDE);
        }
        check.due("add at a far corner", hull.add(FAR, -FAR), 0);
        check.due("add at another", hull.add(-FAR, FAR), 1);
        check.due("add where one is", hull.add(FAR, -FAR), LiveHull.NO);
        check.due("add, the same X alone", hull.add(FAR, 0), 2);
        check.due("add, the same Y alone", hull.add(0, FAR), 3);
        LiveHull full = full();
        check.due("add OUTSIDE ahead of FULL", full.add(FAR + 1, 0), LiveHull.OUTSIDE);
        check.due("add NO ahead of FULL", full.add(3, 3), LiveHull.NO);
        check.due("add FULL", full.add(50, 50), LiveHull.FULL);
        check.due("told(0)", full.told(0), 32);
    }

    private static void removeTellsHowMany() {
        check.about("promise 3");
        LiveHull hull = Check.with(0, 0, 5, 5, 2, 9);
        check.due("remove(-1)", hull.remove(-1), LiveHull.UNKNOWN);
        check.due("remove(3)", hull.remove(3), LiveHull.UNKNOWN);
        check.due("remove(32)", hull.remove(32), LiveHull.UNKNOWN);
        check.due("remove(-6)", hull.remove(LiveHull.NONE), LiveHull.UNKNOWN);
        check.due("remove(1)", hull.remove(1), 2);
        check.due("remove(1) again", hull.remove(1), LiveHull.UNKNOWN);
        check.due("point(0, 0)", hull.point(0, 0), 0);
        check.due("point(2, 1)", hull.point(2, 1), 9);
        check.due("ranked(1)", hull.ranked(1), 2);
        check.due("remove(0)", hull.remove(0), 1);
        check.due("remove(2)", hull.remove(2), 0);
        check.due("remove(2) of none", hull.remove(2), LiveHull.UNKNOWN);
        check.due("add once more", hull.add(5, 5), 0);
    }

    private static void moveKeepsTheId() {
        check.about("promise 4");
        LiveHull hull = Check.with(0, 0, 5, 5, 2, 9);
        check.due("move(0, 7, 7)", hull.move(0, 7, 7), 1);
        check.due("point(0, 0)", hull.point(0, 0), 7);
        check.due("point(0, 1)", hull.point(0, 1), 7);
        check.due("point(0, 2)", hull.point(0, 2), 2);
        check.due("ranked(0)", hull.ranked(0), 2);
        check.due("ranked(1)", hull.ranked(1), 1);
        check.due("move back over the others", hull.move(0, -FAR, FAR), 1);
        check.due("ranked(0)", hull.ranked(0), 0);
        check.due("the place left is free", hull.add(7, 7), 3);
        check.due("told(0)", hull.told(0), 4);
        LiveHull full = full();
        check.due("move when full", full.move(31, 99, 99), 1);
        check.due("ranked(31)", full.ranked(31), 31);
    }

    private static void moveRefuses() {
        check.about("promise 4, refused");
        LiveHull hull = Check.with(0, 0, 5, 5);
        check.due("UNKNOWN ahead of OUTSIDE", hull.move(2, FAR + 1, 0), LiveHull.UNKNOWN);
        check.due("move(-1, 3, 3)", hull.move(-1, 3, 3), LiveHull.UNKNOWN);
        check.due("move(32, 3, 3)", hull.move(32, 3, 3), LiveHull.UNKNOWN);
        check.due("X beyond", hull.move(0, -FAR - 1, 0), LiveHull.OUTSIDE);
        check.due("Y beyond", hull.move(0, 0, FAR + 1), LiveHull.OUTSIDE);
        check.due("where another is", hull.move(0, 5, 5), LiveHull.NO);
        check.due("where it is itself", hull.move(0, 0, 0), LiveHull.NO);
        check.due("point(0, 0)", hull.point(0, 0), 0);
    }

    private static void pointTells() {
        check.about("promise 5");
        LiveHull hull = Check.with(3, -4, -FAR, FAR, 3, -5);
        check.due("point(0, 0)", hull.point(0, 0), 3);
        check.due("point(0, 1)", hull.point(0, 1), -4);
        check.due("point(0, 2)", hull.point(0, 2), 2);
        check.due("point(1, 0)", hull.point(1, 0), -FAR);
        check.due("point(1, 1)", hull.point(1, 1), FAR);
        check.due("point(1, 2)", hull.point(1, 2), 0);
        check.due("point(2, 2)", hull.point(2, 2), 1);
    }

    private static void pointTellsTop() {
        check.about("promise 5, TOP");
        LiveHull one = Check.with(4, 4);
        check.due("one: ABOVE", one.point(0, 3), 0);
        check.due("one: BELOW", one.point(0, 4), 0);
        // Of one X: the upper one is hidden below down to its own PART, and the other way round.
        LiveHull two = Check.with(4, 4, 4, 5);
        check.due("lower: ABOVE", two.point(0, 3), 1);
        check.due("lower: BELOW", two.point(0, 4), 0);
        check.due("upper: ABOVE", two.point(1, 3), 0);
        check.due("upper: BELOW", two.point(1, 4), 1);
        LiveHull tent = Check.with(0, 0, 1, 5, 2, 6, 3, 0);
        check.due("left end: ABOVE", tent.point(0, 3), 0);
        check.due("top: ABOVE", tent.point(1, 3), 0);
        check.due("top: BELOW", tent.point(1, 4), 1);
        check.due("right end: BELOW", tent.point(3, 4), 0);
        LiveHull straight = Check.with(0, 0, 1, 1, 2, 2, 3, 3, 4, 4);
        check.due("straight, rank 1: ABOVE", straight.point(1, 3), 2);
        check.due("straight, rank 2: BELOW", straight.point(2, 4), 1);
        check.due("straight, rank 3: ABOVE", straight.point(3, 3), 1);
        LiveHull column = new LiveHull();
        for (int k = 0; k < 32; k++) {
            column.add(0, k);
        }
        check.due("column, the lowest: ABOVE", column.point(0, 3), 5);
        check.due("column, the lowest: BELOW", column.point(0, 4), 0);
        check.due("column, the highest: ABOVE", column.point(31, 3), 0);
        check.due("column, the highest: BELOW", column.point(31, 4), 5);
        check.due("column, over the middle: BELOW", column.point(16, 4), 1);
    }

    private static void pointRefuses() {
        check.about("promise 5, refused");
        LiveHull hull = Check.with(3, -4);
        check.due("point(1, 9)", hull.point(1, 9), LiveHull.UNKNOWN);
        check.due("point(-1, 0)", hull.point(-1, 0), LiveHull.UNKNOWN);
        check.due("point(32, 0)", hull.point(32, 0), LiveHull.UNKNOWN);
        check.due("point(0, -1)", hull.point(0, -1), LiveHull.OUTSIDE);
        check.due("point(0, 5)", hull.point(0, 5), LiveHull.OUTSIDE);
    }

    private static void rankedFollowsXThenY() {
        check.about("promise 6");
        LiveHull hull = Check.with(2, 2, -1, 7, 2, -2, -1, -7, 0, 0, 2, 0);
        int[] due = {3, 1, 4, 2, 5, 0};
        for (int rank = 0; rank < due.length; rank++) {
            check.due("ranked(" + rank + ")", hull.ranked(rank), due[rank]);
            check.due("its RANK", hull.point(due[rank], 2), rank);
        }
        check.due("ranked(6)", hull.ranked(6), LiveHull.NONE);
        check.due("ranked(-1)", hull.ranked(-1), LiveHull.NONE);
        check.due("ranked(least)", hull.ranked(Integer.MIN_VALUE), LiveHull.NONE);
        check.due("ranked(greatest)", hull.ranked(Integer.MAX_VALUE), LiveHull.NONE);
        check.due("ranked(32) when full", full().ranked(32), LiveHull.NONE);
    }

    private static void refusedCallsChangeNothing() {
        check.about("refused calls");
        LiveHull hull = Check.with(0, 0, 9, 0, 0, 9);
        hull.add(FAR + 1, 1);
        hull.add(9, 0);
        hull.remove(3);
        hull.move(0, 9, 0);
        hull.move(1, 0, FAR + 1);
        hull.move(7, 1, 1);
        hull.image(2);
        hull.restore(0);
        hull.restore(-1);
        check.due("told(0)", hull.told(0), 3);
        check.due("area()", hull.area(), 81);
        check.due("ranked(0)", hull.ranked(0), 0);
        check.due("ranked(1)", hull.ranked(1), 2);
        check.due("ranked(2)", hull.ranked(2), 1);
    }
}
