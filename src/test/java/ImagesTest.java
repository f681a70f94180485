/** Promises 15 to 17: IMAGES, and what is told of all. */
public final class ImagesTest {
    private static final Check check = new Check();

    public static void main(String[] args) {
        imageKeepsAll();
        imagesAreTwo();
        imageOfNone();
        imageIsKeptThroughRestore();
        imageRefuses();
        restoreRefuses();
        toldCounts();
        toldRefuses();
        check.end();
    }

    private static void imageKeepsAll() {
        check.about("promises 15, 16");
        LiveHull hull = Check.with(0, 0, 9, 0, 0, 9, 9, 9);
        hull.remove(1);
        check.due("image(0)", hull.image(0), 1);
        hull.add(20, 20);
        hull.move(0, -5, -5);
        hull.remove(2);
        hull.remove(3);
        check.due("restore(0)", hull.restore(0), 1);
        check.due("told(0)", hull.told(0), 3);
        check.due("point(0, 0)", hull.point(0, 0), 0);
        check.due("point(1, 0)", hull.point(1, 0), LiveHull.UNKNOWN);
        check.due("point(2, 1)", hull.point(2, 1), 9);
        check.due("point(3, 0)", hull.point(3, 0), 9);
        check.due("ranked(0)", hull.ranked(0), 0);
        check.due("ranked(1)", hull.ranked(1), 2);
        check.due("ranked(2)", hull.ranked(2), 3);
        check.due("part(2, 0)", hull.part(2, 0), 2);
        check.due("part(5, 1)", hull.part(5, 1), 1);
        check.due("told(1)", hull.told(1), 5);
        check.due("area()", hull.area(), 81);
        check.due("the least free ID", hull.add(1, 1), 1);
    }

    private static void imagesAreTwo() {
        check.about("promises 15, 16, two");
        LiveHull hull = Check.with(0, 0);
        hull.image(0);
        hull.add(5, 5);
        hull.image(1);
        hull.add(7, 7);
        hull.restore(0);
        check.due("of image 0", hull.told(0), 1);
        hull.restore(1);
        check.due("of image 1", hull.told(0), 2);
        hull.image(0);
        hull.remove(0);
        hull.restore(0);
        check.due("of image 0 kept anew", hull.told(0), 2);
    }

    private static void imageOfNone() {
        check.about("promises 15, 16, no POINT");
        LiveHull hull = new LiveHull();
        check.due("image(1)", hull.image(1), 1);
        hull.add(3, 3);
        check.due("restore(1)", hull.restore(1), 1);
        check.due("told(0)", hull.told(0), 0);
        check.due("part(1, 0)", hull.part(1, 0), LiveHull.UNKNOWN);
        check.due("told(4)", hull.told(4), LiveHull.NONE);
    }

    private static void imageIsKeptThroughRestore() {
        check.about("promises 15, 16, again");
        LiveHull hull = Check.with(0, 0, 4, 4);
        hull.image(0);
        hull.restore(0);
        hull.move(0, 1, 1);
        hull.remove(1);
        check.due("restore(0)", hull.restore(0), 1);
        check.due("point(0, 0)", hull.point(0, 0), 0);
        check.due("told(0)", hull.told(0), 2);
    }

    private static void imageRefuses() {
        check.about("promise 15, refused");
        LiveHull hull = Check.with(0, 0);
        int[] none = {-1, 2, Integer.MIN_VALUE, Integer.MAX_VALUE};
        for (int n : none) {
            check.due("image(" + n + ")", hull.image(n), LiveHull.OUTSIDE);
        }
        check.due("restore(0)", hull.restore(0), LiveHull.STATE);
        check.due("restore(1)", hull.restore(1), LiveHull.STATE);
    }

    private static void restoreRefuses() {
        check.about("promise 16, refused");
        LiveHull hull = Check.with(0, 0);
        int[] none = {-1, 2, Integer.MIN_VALUE, Integer.MAX_VALUE};
        for (int n : none) {
            check.due("restore(" + n + ")", hull.restore(n), LiveHull.OUTSIDE);
        }
        hull.image(0);
        check.due("the other one", hull.restore(1), LiveHull.STATE);
        check.due("told(0)", hull.told(0), 1);
    }

    private static void toldIs(LiveHull hull, int... due) {
        for (int what = 0; what < due.length; what++) {
            check.due("told(" + what + ")", hull.told(what), due[what]);
        }
    }

    private static void toldCounts() {
        check.about("promise 17");
        toldIs(new LiveHull(), 0, 0, 0, 0, LiveHull.NONE);
        toldIs(Check.with(5, 5), 1, 1, 2, 0, 0);
        toldIs(Check.with(5, 5, 8, 1), 2, 3, 8, 0, 1);
        toldIs(Check.with(5, 5, 5, 9), 2, 3, 6, 2, 1);
        toldIs(Check.with(0, 0, 1, 1, 2, 2), 3, 5, 14, 2, 2);
        toldIs(Check.with(0, 0, 1, 1, 2, 2, 3, 3, 4, 4), 5, 9, 26, 6, 3);
        LiveHull full = new LiveHull();
        for (int k = 0; k < 32; k++) {
            full.add(k, k * k);
        }
        // BELOW all are corners at each DEPTH; ABOVE two of each PART, one of a single POINT, so
        // that of the corners of each half of more than one a single one is left as its REST.
        toldIs(full, 32, 63, 6 * 32 + 2 * 31 + 32, 30, 5);
        LiveHull column = new LiveHull();
        for (int k = 0; k < 32; k++) {
            column.add(0, k);
        }
        // Each PART has one corner a side, and one of its two halves has the same one.
        toldIs(column, 32, 63, 2 * 63, 2 * 31, 5);
        int[] depths = {0, 1, 2, 2, 3, 3, 3, 3, 4, 4, 4, 4, 4, 4, 4, 4, 5, 5};
        LiveHull hull = new LiveHull();
        for (int count = 1; count <= depths.length; count++) {
            hull.add(count, 0);
            check.due("told(1) of " + count, hull.told(1), 2 * count - 1);
            check.due("told(4) of " + count, hull.told(4), depths[count - 1]);
        }
    }

    private static void toldRefuses() {
        check.about("promise 17, refused");
        int[] none = {-1, 5, Integer.MIN_VALUE, Integer.MAX_VALUE};
        for (int what : none) {
            check.due("told(" + what + ")", new LiveHull().told(what), LiveHull.OUTSIDE);
            check.due("told(" + what + ") of one", Check.with(1, 1).told(what), LiveHull.OUTSIDE);
        }
    }
}
