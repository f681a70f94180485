import java.util.function.Consumer;
import java.util.function.Supplier;

/** Promise 16: "It is as it was when it was kept: 1. OUTSIDE; STATE: it was not". */
public final class Promise16RestoreTest {
    private static final Check check = new Check();

    public static void main(String[] args) throws IllegalAccessException {
        check.runAll(Promise16RestoreTest.class);
    }

    /** All is kept, then changed, then as it was. */
    private static void comesBack(Supplier<LiveHull> made, Consumer<LiveHull> changes) {
        Supplier<LiveHull> kept = () -> {
            LiveHull hull = made.get();
            hull.image(0);
            return hull;
        };
        check.same("", kept, () -> {
            LiveHull hull = kept.get();
            changes.accept(hull);
            check.due("restore(0)", hull.restore(0), 1);
            return hull;
        });
    }

    static void bringsBackOneThatWent() {
        comesBack(Shapes::square, hull -> hull.remove(2));
    }

    static void takesAwayOneThatCame() {
        comesBack(Shapes::square, hull -> hull.add(50, 50));
    }

    static void movesBackOneThatMoved() {
        comesBack(Shapes::square, hull -> hull.move(5, 50, 50));
    }

    /** IDs, too: one may have gone and another come by the same ID. */
    static void bringsBackTheIds() {
        comesBack(Shapes::square, hull -> {
            hull.remove(0);
            hull.remove(1);
            hull.add(10, 0);
            hull.add(0, 0);
        });
    }

    static void bringsBackWhichIdsAreFree() {
        LiveHull hull = Shapes.square();
        hull.remove(1);
        hull.image(0);
        hull.add(40, 40);
        hull.remove(0);
        hull.restore(0);
        check.due("the least free ID", hull.add(41, 41), 1);
        check.due("the next one", hull.add(42, 42), 6);
    }

    static void bringsBackNoPoint() {
        comesBack(Shapes::none, hull -> hull.add(3, 3));
    }

    static void bringsBackThirtyTwo() {
        comesBack(Shapes::full, hull -> {
            for (int id = 0; id < 32; id++) hull.remove(id);
        });
        LiveHull hull = Shapes.full();
        hull.image(1);
        hull.remove(4);
        hull.restore(1);
        check.due("full again", hull.add(50, 50), LiveHull.FULL);
    }

    static void changesNothingRightAfterTheImage() {
        comesBack(Shapes::square, hull -> { });
    }

    static void mayBeDoneAgain() {
        LiveHull hull = Shapes.triangle();
        hull.image(0);
        hull.restore(0);
        hull.move(0, 1, 1);
        hull.remove(1);
        check.due("the second time", hull.restore(0), 1);
        check.due("told(0)", hull.told(0), 3);
        check.due("point(0, 0)", hull.point(0, 0), 0);
        hull.add(30, 30);
        check.due("the third time", hull.restore(0), 1);
        check.due("told(0)", hull.told(0), 3);
    }

    /** The one IMAGE, then the other one: neither is lost by restore. */
    static void leavesBothImages() {
        LiveHull hull = Shapes.withImages();
        check.due("restore(1)", hull.restore(1), 1);
        check.due("told(0)", hull.told(0), 4);
        check.due("restore(0)", hull.restore(0), 1);
        check.due("told(0)", hull.told(0), 3);
        check.due("restore(1) again", hull.restore(1), 1);
        check.due("told(0)", hull.told(0), 4);
    }

    static void stateIfItWasNotKept() {
        for (int k = 0; k < 2; k++) {
            int n = k;
            check.refused(Shapes::none, "of a new object", hull -> hull.restore(n), LiveHull.STATE);
            check.refused(Shapes::square, "of a square", hull -> hull.restore(n), LiveHull.STATE);
        }
    }

    static void stateIfOnlyTheOtherWasKept() {
        for (int k = 0; k < 2; k++) {
            int n = k;
            check.refused(() -> {
                LiveHull hull = Shapes.triangle();
                hull.image(1 - n);
                hull.remove(0);
                return hull;
            }, "restore(" + n + ")", hull -> hull.restore(n), LiveHull.STATE);
        }
    }

    static void outsideIfItIsTooSmall() {
        int[] none = {-1, -2, Shapes.LEAST};
        check.refusedEach(Shapes::withImages, none, LiveHull::restore, LiveHull.OUTSIDE);
    }

    static void outsideIfItIsTooLarge() {
        int[] none = {2, 3, Shapes.GREATEST};
        check.refusedEach(Shapes::withImages, none, LiveHull::restore, LiveHull.OUTSIDE);
    }

    /** "the first of these that fits": OUTSIDE, STATE. */
    static void outsideAheadOfState() {
        check.refused(Shapes::one, "restore(2)", hull -> hull.restore(2), LiveHull.OUTSIDE);
        check.refused(Shapes::none, "restore(-1)", hull -> hull.restore(-1), LiveHull.OUTSIDE);
    }
}
