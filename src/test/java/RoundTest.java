/** Promises 10 to 14: what lies round all POINTS. */
public final class RoundTest {
    private static final int FAR = 1000000000;
    private static final int OUT = 0, AT_CORNER = 1, AT_EDGE = 2, IN = 3;
    private static final Check check = new Check();

    public static void main(String[] args) {
        roundGoesBelowThenAbove();
        roundOfFewPoints();
        roundOfThirtyTwoCorners();
        roundFollowsChanges();
        extremes();
        extremeOfAsGreat();
        extremeRefuses();
        wherePlacesAre();
        whereOfFewPoints();
        whereWide();
        touches();
        touchTakesTheNearer();
        touchStraight();
        touchRefuses();
        areas();
        check.end();
    }

    private static LiveHull square() {
        return Check.with(0, 0, 10, 0, 10, 10, 0, 10, 5, 0, 5, 5);
    }

    private static void roundIs(LiveHull hull, long... ids) {
        long[] got = new long[ids.length];
        for (int k = 0; k < ids.length; k++) {
            got[k] = hull.round(k);
        }
        check.row("round(..)", got, ids);
        check.due("round(-1)", hull.round(-1), ids.length);
        check.due("round, past its end", hull.round(ids.length), LiveHull.NONE);
        check.due("round(-2)", hull.round(-2), LiveHull.NONE);
        check.due("round(least)", hull.round(Integer.MIN_VALUE), LiveHull.NONE);
        check.due("round(greatest)", hull.round(Integer.MAX_VALUE), LiveHull.NONE);
    }

    private static void roundGoesBelowThenAbove() {
        check.about("promise 10");
        roundIs(square(), 0, 1, 2, 3);
        roundIs(Check.with(0, 0, 3, 4, 6, 0, 3, -4), 0, 3, 2, 1);
        roundIs(Check.with(5, 9, 0, 0, 5, -9, 2, 8), 1, 2, 0, 3);
    }

    private static void roundOfFewPoints() {
        check.about("promise 10, few points");
        roundIs(new LiveHull());
        roundIs(Check.with(7, 7), 0);
        roundIs(Check.with(7, 7, 2, 9), 1, 0);
        roundIs(Check.with(7, 7, 7, 9, 7, 8), 0, 1);
        roundIs(Check.with(2, 2, 0, 0, 1, 1), 1, 0);
    }

    private static void roundOfThirtyTwoCorners() {
        check.about("promise 10, 32 corners");
        LiveHull hull = new LiveHull();
        for (int k = 0; k < 16; k++) {
            hull.add(k, k * k);
            hull.add(k, 1000 - k * k);
        }
        long[] due = new long[32];
        for (int k = 0; k < 16; k++) {
            due[k] = 2 * k;
            due[31 - k] = 2 * k + 1;
        }
        roundIs(hull, due);
    }

    private static void roundFollowsChanges() {
        check.about("promise 10, changes");
        LiveHull hull = square();
        hull.move(5, 20, 5);
        roundIs(hull, 0, 1, 5, 2, 3);
        hull.remove(1);
        roundIs(hull, 0, 4, 5, 2, 3);
        hull.move(2, 5, 5);
        roundIs(hull, 0, 4, 5, 3);
        hull.remove(0);
        hull.remove(3);
        roundIs(hull, 4, 5, 2);
    }

    private static void extremes() {
        check.about("promise 11");
        LiveHull hull = Check.with(0, 0, 3, 4, 6, 0, 3, -4, 3, 0);
        check.due("extreme(1, 0)", hull.extreme(1, 0), 2);
        check.due("extreme(-1, 0)", hull.extreme(-1, 0), 0);
        check.due("extreme(0, 1)", hull.extreme(0, 1), 1);
        check.due("extreme(0, -1)", hull.extreme(0, -1), 3);
        check.due("extreme(100, 74)", hull.extreme(100, 74), 2);
        check.due("extreme(100, 76)", hull.extreme(100, 76), 1);
        LiveHull wide = Check.with(-FAR, -FAR, FAR, FAR, FAR, FAR - 1);
        check.due("wide", wide.extreme(FAR, FAR), 1);
        check.due("wide, the other way", wide.extreme(-FAR, -FAR), 0);
        check.due("wide, finely", wide.extreme(FAR, -1), 2);
        check.due("one point", Check.with(5, 5).extreme(-3, 1), 0);
    }

    private static void extremeOfAsGreat() {
        check.about("promise 11, as great");
        LiveHull hull = Check.with(10, 10, 10, 0, 0, 10, 0, 0);
        check.due("extreme(1, 0)", hull.extreme(1, 0), 1);
        check.due("extreme(-1, 0)", hull.extreme(-1, 0), 3);
        check.due("extreme(0, 1)", hull.extreme(0, 1), 2);
        check.due("extreme(0, -1)", hull.extreme(0, -1), 3);
        LiveHull slope = Check.with(4, 2, 0, 0, 2, 1);
        check.due("extreme(-1, 2)", slope.extreme(-1, 2), 1);
        check.due("extreme(1, -2)", slope.extreme(1, -2), 1);
    }

    private static void extremeRefuses() {
        check.about("promise 11, refused");
        LiveHull hull = Check.with(1, 1);
        check.due("both 0", hull.extreme(0, 0), LiveHull.NO);
        check.due("no POINT", new LiveHull().extreme(1, 0), LiveHull.NO);
        int[] beyond = {FAR + 1, -FAR - 1, Integer.MAX_VALUE, Integer.MIN_VALUE};
        for (int far : beyond) {
            check.due("dx " + far, hull.extreme(far, 1), LiveHull.OUTSIDE);
            check.due("dy " + far, hull.extreme(1, far), LiveHull.OUTSIDE);
            check.due("OUTSIDE ahead of NO", new LiveHull().extreme(far, 0), LiveHull.OUTSIDE);
        }
    }

    private static void wherePlacesAre() {
        check.about("promise 12");
        LiveHull hull = square();
        check.due("where(0, 0)", hull.where(0, 0), AT_CORNER);
        check.due("where(10, 10)", hull.where(10, 10), AT_CORNER);
        check.due("where(3, 0)", hull.where(3, 0), AT_EDGE);
        check.due("where(10, 4)", hull.where(10, 4), AT_EDGE);
        check.due("where(4, 10)", hull.where(4, 10), AT_EDGE);
        check.due("where(0, 4)", hull.where(0, 4), AT_EDGE);
        check.due("a POINT that is no corner", hull.where(5, 0), AT_EDGE);
        check.due("a POINT inside", hull.where(5, 5), IN);
        check.due("where(9, 9)", hull.where(9, 9), IN);
        check.due("where(11, 0)", hull.where(11, 0), OUT);
        check.due("where(-1, 0)", hull.where(-1, 0), OUT);
        check.due("where(10, 11)", hull.where(10, 11), OUT);
        check.due("where(10, -1)", hull.where(10, -1), OUT);
        check.due("where(11, 5)", hull.where(11, 5), OUT);
        check.due("X beyond", hull.where(FAR + 1, 0), LiveHull.OUTSIDE);
        check.due("Y beyond", hull.where(0, -FAR - 1), LiveHull.OUTSIDE);
        check.due("X least", hull.where(Integer.MIN_VALUE, 0), LiveHull.OUTSIDE);
        check.due("no POINT, beyond", new LiveHull().where(0, FAR + 1), LiveHull.OUTSIDE);
    }

    private static void whereOfFewPoints() {
        check.about("promise 12, few points");
        check.due("none", new LiveHull().where(0, 0), OUT);
        LiveHull one = Check.with(4, 4);
        check.due("one, at it", one.where(4, 4), AT_CORNER);
        check.due("one, beside it", one.where(4, 5), OUT);
        LiveHull two = Check.with(0, 0, 4, 2);
        check.due("two, at one", two.where(4, 2), AT_CORNER);
        check.due("two, between", two.where(2, 1), AT_EDGE);
        check.due("two, on the line", two.where(6, 3), OUT);
        check.due("two, on the line, ahead", two.where(-2, -1), OUT);
        check.due("two, left of it", two.where(2, 2), OUT);
        check.due("two, right of it", two.where(2, 0), OUT);
        LiveHull column = Check.with(3, 1, 3, 9, 3, 4);
        check.due("column, a POINT between", column.where(3, 4), AT_EDGE);
        check.due("column, over it", column.where(3, 10), OUT);
        check.due("column, beside it", column.where(2, 4), OUT);
    }

    private static void whereWide() {
        check.about("promise 12, wide");
        LiveHull hull = Check.with(-FAR, -FAR, FAR, FAR - 1, FAR, -FAR);
        check.due("just over the edge", hull.where(0, 0), OUT);
        check.due("just under the edge", hull.where(0, -1), IN);
        check.due("at the far edge", hull.where(FAR, 0), AT_EDGE);
        check.due("the free far corner", hull.where(-FAR, FAR), OUT);
        LiveHull slope = Check.with(-FAR, -FAR, FAR, FAR);
        check.due("slope, on it", slope.where(FAR - 1, FAR - 1), AT_EDGE);
        check.due("slope, beside it", slope.where(FAR - 1, FAR), OUT);
    }

    private static void touchIs(LiveHull hull, int x, int y, int left, int right) {
        check.due("touch(" + x + ", " + y + ", 0)", hull.touch(x, y, 0), left);
        check.due("touch(" + x + ", " + y + ", 1)", hull.touch(x, y, 1), right);
    }

    private static void touches() {
        check.about("promise 13");
        LiveHull hull = square();
        touchIs(hull, 20, 5, 2, 1);
        touchIs(hull, 5, 20, 3, 2);
        touchIs(hull, -10, 5, 0, 3);
        touchIs(hull, 5, -10, 1, 0);
        touchIs(hull, 20, 20, 3, 1);
        touchIs(hull, -FAR, -FAR, 1, 3);
        touchIs(Check.with(5, 5), 1, 1, 0, 0);
        LiveHull wide = Check.with(-FAR, FAR, FAR, FAR, FAR, FAR - 1);
        touchIs(wide, -FAR, -FAR, 2, 0);
        touchIs(wide, FAR, -FAR, 2, 0);
    }

    private static void touchTakesTheNearer() {
        check.about("promise 13, nearer");
        LiveHull hull = square();
        touchIs(hull, 20, 0, 2, 1);
        touchIs(hull, -5, 0, 0, 3);
        touchIs(hull, 0, 30, 3, 2);
        touchIs(hull, 10, -3, 1, 0);
        touchIs(hull, 30, 10, 2, 1);
        // A POINT that is no corner may be nearer, but only corners count.
        touchIs(Check.with(2, 0, 10, 0, 10, 8, 4, 2), 0, -2, 1, 0);
    }

    private static void touchStraight() {
        check.about("promise 13, straight");
        LiveHull slope = Check.with(0, 0, 2, 1, 4, 2);
        touchIs(slope, 6, 3, 2, 2);
        touchIs(slope, -2, -1, 0, 0);
        touchIs(slope, 2, 5, 0, 2);
        touchIs(slope, 2, -5, 2, 0);
        LiveHull column = Check.with(3, 1, 3, 9, 3, 4);
        touchIs(column, 3, 0, 0, 0);
        touchIs(column, 3, 10, 1, 1);
        touchIs(column, 9, 4, 1, 0);
        LiveHull wide = Check.with(FAR - 1, FAR - 1, FAR, FAR);
        touchIs(wide, -FAR, -FAR, 0, 0);
    }

    private static void touchRefuses() {
        check.about("promise 13, refused");
        LiveHull hull = square();
        check.due("at a corner", hull.touch(0, 0, 0), LiveHull.STATE);
        check.due("at an edge", hull.touch(3, 0, 1), LiveHull.STATE);
        check.due("inside", hull.touch(5, 5, 0), LiveHull.STATE);
        check.due("the side 2", hull.touch(20, 5, 2), LiveHull.OUTSIDE);
        check.due("the side -1", hull.touch(20, 5, -1), LiveHull.OUTSIDE);
        check.due("OUTSIDE ahead of STATE", hull.touch(5, 5, 2), LiveHull.OUTSIDE);
        check.due("X beyond", hull.touch(FAR + 1, 5, 0), LiveHull.OUTSIDE);
        check.due("Y beyond", hull.touch(5, -FAR - 1, 0), LiveHull.OUTSIDE);
        check.due("no POINT", new LiveHull().touch(5, 5, 0), LiveHull.NO);
        check.due("OUTSIDE ahead of NO", new LiveHull().touch(5, 5, 2), LiveHull.OUTSIDE);
    }

    private static void areas() {
        check.about("promise 14");
        check.due("none", new LiveHull().area(), 0);
        check.due("one", Check.with(5, 5).area(), 0);
        check.due("two", Check.with(5, 5, 9, 0).area(), 0);
        check.due("straight", Check.with(0, 0, 2, 1, 4, 2).area(), 0);
        check.due("a triangle", Check.with(0, 0, 1, 0, 0, 1).area(), 1);
        check.due("a square", square().area(), 200);
        check.due("off the middle", Check.with(100, 100, 103, 100, 100, 104).area(), 12);
        LiveHull wide = Check.with(-FAR, -FAR, FAR, -FAR, FAR, FAR, -FAR, FAR);
        check.due("all", wide.area(), 8000000000000000000L);
        wide.move(2, FAR, FAR - 1);
        check.due("all but a sliver", wide.area(), 8000000000000000000L - 2L * FAR);
    }
}
