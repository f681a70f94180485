/** Promise 3: a POINT goes; "how many there are. UNKNOWN". */
public final class Promise03RemoveTest {
    private static final Check check = new Check();

    public static void main(String[] args) throws IllegalAccessException {
        check.runAll(Promise03RemoveTest.class);
    }

    static void tellsHowManyAreLeft() {
        LiveHull hull = Shapes.full();
        for (int left = 31; left >= 0; left--) {
            int id = left * 7 % 32;
            check.due("remove(" + id + ")", hull.remove(id), left);
            check.due("told(0)", hull.told(0), left);
        }
    }

    static void leavesTheOthers() {
        LiveHull hull = Shapes.with(0, 0, 5, 5, 2, 9);
        hull.remove(1);
        check.due("point(0, 0)", hull.point(0, 0), 0);
        check.due("point(2, 0)", hull.point(2, 0), 2);
        check.due("point(2, 1)", hull.point(2, 1), 9);
        check.due("ranked(1)", hull.ranked(1), 2);
        check.due("ranked(2)", hull.ranked(2), LiveHull.NONE);
    }

    static void theLastOneLeavesANewObject() {
        check.same("", LiveHull::new, () -> {
            LiveHull hull = Shapes.one();
            hull.remove(0);
            return hull;
        });
        check.same("all of 32, ", LiveHull::new, () -> {
            LiveHull hull = Shapes.full();
            for (int id = 0; id < 32; id++) hull.remove(id);
            return hull;
        });
    }

    static void unknownWithoutAPoint() {
        check.refused(Shapes::none, "remove(0)", hull -> hull.remove(0), LiveHull.UNKNOWN);
    }

    static void unknownIfItNeverCame() {
        check.refused(Shapes::triangle, "remove(3)", hull -> hull.remove(3), LiveHull.UNKNOWN);
        check.refused(Shapes::triangle, "remove(31)", hull -> hull.remove(31), LiveHull.UNKNOWN);
    }

    static void unknownIfItHasGone() {
        LiveHull hull = Shapes.triangle();
        hull.remove(1);
        check.due("again", hull.remove(1), LiveHull.UNKNOWN);
        check.due("told(0)", hull.told(0), 2);
        check.due("another", hull.remove(2), 1);
    }

    static void unknownIfItIsNoId() {
        check.refusedEach(Shapes::one, Shapes.NO_IDS, LiveHull::remove, LiveHull.UNKNOWN);
        check.refusedEach(Shapes::full, Shapes.NO_IDS, LiveHull::remove, LiveHull.UNKNOWN);
    }
}
