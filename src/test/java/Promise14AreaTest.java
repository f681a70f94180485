/** Promise 14: "Twice the area", a long. */
public final class Promise14AreaTest {
    private static final int FAR = Shapes.FAR;
    private static final long WHOLE = 8000000000000000000L;
    private static final Check check = new Check();

    public static void main(String[] args) throws IllegalAccessException {
        check.runAll(Promise14AreaTest.class);
    }

    static void isTwiceTheArea() {
        check.due("a triangle", Shapes.triangle().area(), 81);
        check.due("a square", Shapes.square().area(), 200);
        check.due("a tent", Shapes.tent().area(), 108);
    }

    static void mayBeOdd() {
        check.due("the least triangle", Shapes.with(0, 0, 1, 0, 0, 1).area(), 1);
        check.due("a flat one", Shapes.with(0, 0, 2, 1, 5, 3).area(), 1);
    }

    static void ofNoPointIsNothing() {
        check.due("area()", new LiveHull().area(), 0);
    }

    static void ofOnePointIsNothing() {
        check.due("area()", Shapes.one().area(), 0);
        check.due("at the bounds", Shapes.with(-FAR, FAR).area(), 0);
    }

    static void ofTwoPointsIsNothing() {
        check.due("area()", Shapes.two().area(), 0);
        check.due("at the bounds", Shapes.with(-FAR, FAR, FAR, -FAR).area(), 0);
    }

    static void ofPointsInALineIsNothing() {
        check.due("a slope", Shapes.with(0, 0, 2, 1, 4, 2).area(), 0);
        check.due("of one X", Shapes.column(32).area(), 0);
        check.due("of one Y", Shapes.level(32).area(), 0);
        check.due("from bound to bound", Shapes.with(-FAR, -FAR, 1, 1, FAR, FAR).area(), 0);
    }

    static void isTheSameWhereverItLies() {
        check.due("to the right", Shapes.with(100, 100, 103, 100, 100, 104).area(), 12);
        check.due("to the left", Shapes.with(-100, -100, -103, -100, -100, -104).area(), 12);
        check.due("at a bound", Shapes.with(FAR, FAR, FAR - 3, FAR, FAR, FAR - 4).area(), 12);
        check.due("at another", Shapes.with(-FAR, FAR, -FAR + 3, FAR, -FAR, FAR - 4).area(), 12);
    }

    static void isNeverLessThanNothing() {
        check.due("one way round", Shapes.with(0, 0, 4, 0, 0, 3).area(), 12);
        check.due("the other way round", Shapes.with(0, 0, 0, 3, 4, 0).area(), 12);
    }

    /** The greatest there can be is beyond 32 bits and beyond the digits of a double. */
    static void isWholeHoweverWide() {
        LiveHull hull = Shapes.widest();
        check.due("all", hull.area(), WHOLE);
        hull.move(2, FAR, FAR - 1);
        check.due("all but a sliver", hull.area(), WHOLE - 2L * FAR);
        hull.move(2, FAR - 1, FAR - 1);
        check.due("all but two slivers", hull.area(), WHOLE - 4L * FAR);
        hull.remove(2);
        check.due("a half", hull.area(), WHOLE / 2);
    }

    static void isOneHoweverWide() {
        check.due("area()", Shapes.hair().area(), 1);
    }

    static void isWholeWithManyCorners() {
        LiveHull hull = Shapes.widest();
        hull.move(0, -FAR + 1, -FAR);
        hull.add(-FAR, -FAR + 1);
        check.due("a corner cut", hull.area(), WHOLE - 1);
        check.due("32 corners", Shapes.ring().area(), 25490);
    }

    static void followsWhatComesAndGoes() {
        LiveHull hull = Shapes.square();
        hull.move(5, 20, 5);
        check.due("one goes out", hull.area(), 300);
        hull.remove(2);
        check.due("one is gone", hull.area(), 250);
        hull.add(7, 7);
        check.due("one comes inside", hull.area(), 250);
    }
}
