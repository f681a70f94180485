/** "An object is used for at most 512 calls": up to the last of them all promises hold. */
public final class LimitTest {
    private static final int CALLS = 512;
    private static final Check check = new Check();

    public static void main(String[] args) throws IllegalAccessException {
        check.runAll(LimitTest.class);
    }

    static void theLastCallOfManyThatComeAndGo() {
        LiveHull hull = new LiveHull();
        for (int call = 0; call < CALLS - 2; call += 2) {
            check.due("add", hull.add(call, -call), 0);
            check.due("remove", hull.remove(0), 0);
        }
        check.due("call 511", hull.add(3, 4), 0);
        check.due("call 512", hull.point(0, 1), 4);
    }

    static void theLastCallOfManyMoves() {
        LiveHull hull = Shapes.triangle();
        for (int call = 3; call < CALLS - 1; call++) {
            check.due("move", hull.move(call % 3, call, call * call), 1);
        }
        check.due("call 512", hull.told(0), 3);
    }

    static void theLastCallOfManyImages() {
        LiveHull hull = Shapes.triangle();
        for (int call = 3; call < CALLS - 1; call++) {
            check.due("image, restore", call % 2 == 0 ? hull.restore(0) : hull.image(0), 1);
        }
        check.due("call 512", hull.area(), 81);
    }

    static void theLastCallOfManyQuestions() {
        LiveHull hull = Shapes.full();
        for (int call = 32; call < CALLS - 1; call++) {
            check.due("told(4)", hull.told(4), 5);
        }
        check.due("call 512", hull.told(1), 63);
    }

    static void theLastCallOfManyThatAreRefused() {
        LiveHull hull = Shapes.full();
        for (int call = 32; call < CALLS - 1; call++) {
            check.due("add", hull.add(50, call), LiveHull.FULL);
        }
        check.due("call 512", hull.remove(31), 31);
    }
}
