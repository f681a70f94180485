/** Promise 1: a new object has no POINT, so each call answers as it does without one. */
public final class Promise01NewObjectTest {
    private static final Check check = new Check();

    public static void main(String[] args) throws IllegalAccessException {
        check.runAll(Promise01NewObjectTest.class);
    }

    static void hasNoPoint() {
        check.due("told(0)", new LiveHull().told(0), 0);
        for (int id = -1; id <= 32; id++) {
            LiveHull hull = new LiveHull();
            check.due("point(" + id + ", 0)", hull.point(id, 0), LiveHull.UNKNOWN);
            check.due("remove(" + id + ")", hull.remove(id), LiveHull.UNKNOWN);
            check.due("move(" + id + ", 1, 1)", hull.move(id, 1, 1), LiveHull.UNKNOWN);
        }
    }

    static void hasNoRank() {
        for (int rank = -1; rank <= 32; rank++) {
            check.due("ranked(" + rank + ")", new LiveHull().ranked(rank), LiveHull.NONE);
        }
    }

    static void hasNoPart() {
        LiveHull hull = new LiveHull();
        for (int part = 0; part <= 64; part++) {
            check.due("part(" + part + ", 0)", hull.part(part, 0), LiveHull.UNKNOWN);
            check.due("chain(" + part + ", 0, 0)", hull.chain(part, 0, 0), LiveHull.UNKNOWN);
            check.due("bridge(" + part + ", 0, 0)", hull.bridge(part, 0, 0), LiveHull.UNKNOWN);
        }
        check.due("told(1)", hull.told(1), 0);
        check.due("told(2)", hull.told(2), 0);
        check.due("told(3)", hull.told(3), 0);
        check.due("told(4)", hull.told(4), LiveHull.NONE);
    }

    static void hasNothingRound() {
        LiveHull hull = new LiveHull();
        check.due("round(-1)", hull.round(-1), 0);
        check.due("round(0)", hull.round(0), LiveHull.NONE);
        check.due("area()", hull.area(), 0);
        check.due("where(0, 0)", hull.where(0, 0), 0);
        check.due("extreme(1, 0)", hull.extreme(1, 0), LiveHull.NO);
        check.due("touch(0, 0, 0)", hull.touch(0, 0, 0), LiveHull.NO);
    }

    static void hasNoImage() {
        check.due("restore(0)", new LiveHull().restore(0), LiveHull.STATE);
        check.due("restore(1)", new LiveHull().restore(1), LiveHull.STATE);
    }

    static void givesTheIdZeroFirst() {
        check.due("add(0, 0)", new LiveHull().add(0, 0), 0);
    }

    static void isNotChangedByAnother() {
        LiveHull early = new LiveHull();
        LiveHull other = Shapes.triangle();
        other.image(0);
        check.due("told(0) of an early one", early.told(0), 0);
        check.due("restore(0) of an early one", early.restore(0), LiveHull.STATE);
        LiveHull late = new LiveHull();
        check.due("told(0) of a late one", late.told(0), 0);
        check.due("restore(0) of a late one", late.restore(0), LiveHull.STATE);
        late.add(7, 7);
        check.due("told(0) of the other", other.told(0), 3);
    }
}
