/** Promise 15: "All is kept in an IMAGE (0, 1): 1. OUTSIDE". */
public final class Promise15ImageTest {
    private static final Check check = new Check();

    public static void main(String[] args) throws IllegalAccessException {
        check.runAll(Promise15ImageTest.class);
    }

    static void answersOne() {
        check.due("image(0)", Shapes.square().image(0), 1);
        check.due("image(1)", Shapes.square().image(1), 1);
        check.due("of no POINT", new LiveHull().image(0), 1);
        check.due("of 32", Shapes.full().image(1), 1);
    }

    /** What is kept is not what comes after. */
    static void isNotChangedByLaterCalls() {
        LiveHull hull = Shapes.triangle();
        hull.image(0);
        hull.add(20, 20);
        hull.move(0, -5, -5);
        hull.remove(2);
        hull.restore(0);
        check.due("told(0)", hull.told(0), 3);
        check.due("X of the one moved", hull.point(0, 0), 0);
        check.due("Y of the one removed", hull.point(2, 1), 9);
        check.due("the one that came", hull.point(3, 0), LiveHull.UNKNOWN);
    }

    static void leavesWhatIsThere() {
        LiveHull hull = Shapes.square();
        hull.image(0);
        hull.image(1);
        check.due("told(0)", hull.told(0), 6);
        check.due("area()", hull.area(), 200);
        check.due("the next ID", hull.add(1, 1), 6);
    }

    static void takesThePlaceOfAnEarlierOne() {
        LiveHull hull = Shapes.triangle();
        hull.image(0);
        hull.remove(0);
        hull.image(0);
        hull.remove(1);
        hull.restore(0);
        check.due("told(0)", hull.told(0), 2);
        check.due("point(0, 0)", hull.point(0, 0), LiveHull.UNKNOWN);
    }

    static void leavesTheOtherImage() {
        LiveHull hull = Shapes.triangle();
        hull.image(0);
        hull.remove(0);
        hull.image(1);
        hull.restore(0);
        check.due("of image 0", hull.told(0), 3);
        hull.restore(1);
        check.due("of image 1", hull.told(0), 2);
    }

    static void onlyTheOneIsKept() {
        LiveHull hull = Shapes.one();
        hull.image(1);
        check.due("restore(0)", hull.restore(0), LiveHull.STATE);
        check.due("restore(1)", hull.restore(1), 1);
    }

    static void keepsNoPoint() {
        LiveHull hull = new LiveHull();
        hull.image(1);
        hull.add(3, 3);
        check.due("restore(1)", hull.restore(1), 1);
        check.due("told(0)", hull.told(0), 0);
    }

    static void keepsThirtyTwo() {
        check.same("", Promise15ImageTest::fullWithImage, () -> {
            LiveHull hull = fullWithImage();
            for (int id = 0; id < 32; id += 2) hull.remove(id);
            hull.restore(0);
            return hull;
        });
    }

    private static LiveHull fullWithImage() {
        LiveHull hull = Shapes.full();
        hull.image(0);
        return hull;
    }

    static void outsideIfItIsTooSmall() {
        int[] none = {-1, -2, Shapes.LEAST};
        check.refusedEach(Shapes::withImages, none, LiveHull::image, LiveHull.OUTSIDE);
        check.refusedEach(Shapes::one, none, LiveHull::image, LiveHull.OUTSIDE);
    }

    static void outsideIfItIsTooLarge() {
        int[] none = {2, 3, Shapes.GREATEST};
        check.refusedEach(Shapes::withImages, none, LiveHull::image, LiveHull.OUTSIDE);
        check.refusedEach(Shapes::one, none, LiveHull::image, LiveHull.OUTSIDE);
    }

    static void outsideWithoutAPoint() {
        check.refused(Shapes::none, "image(2)", hull -> hull.image(2), LiveHull.OUTSIDE);
    }
}
