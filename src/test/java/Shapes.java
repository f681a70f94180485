/** Objects that the tests share, and numbers that are beyond all bounds. */
final class Shapes {
    static final int FAR = 1000000000;
    static final int LEAST = Integer.MIN_VALUE, GREATEST = Integer.MAX_VALUE;
    static final int[] TOO_SMALL = {-FAR - 1, LEAST + 1, LEAST};
    static final int[] TOO_LARGE = {FAR + 1, GREATEST - 1, GREATEST};
    /** No ID and no RANK, whatever POINTS there are; the negative ones are also answers. */
    static final int[] NO_IDS = {-1, -2, -3, -4, -5, -6, 32, 33, 64, LEAST, GREATEST};
    /** No PART, whatever POINTS there are; some of them wrap round when they are doubled. */
    static final int[] NO_PARTS = {0, -1, -2, -6, -63, 64, 65, 127, 128, 1 << 30, (1 << 30) + 1,
        LEAST, LEAST + 1, GREATEST};

    private Shapes() { }

    /** A new object with POINTS, told by X and Y in turn. */
    static LiveHull with(int... xy) {
        LiveHull hull = new LiveHull();
        for (int k = 0; k + 1 < xy.length; k += 2) {
            hull.add(xy[k], xy[k + 1]);
        }
        return hull;
    }

    static LiveHull none() {
        return new LiveHull();
    }

    static LiveHull one() {
        return with(5, 5);
    }

    static LiveHull two() {
        return with(0, 0, 4, 2);
    }

    static LiveHull triangle() {
        return with(0, 0, 9, 0, 0, 9);
    }

    /** Four corners; 4 is at the edge below, 5 inside. */
    static LiveHull square() {
        return with(0, 0, 10, 0, 10, 10, 0, 10, 5, 0, 5, 5);
    }

    /** All that is beyond is OUTSIDE: no POINT can lie farther out. */
    static LiveHull widest() {
        return with(-FAR, -FAR, FAR, -FAR, FAR, FAR, -FAR, FAR);
    }

    /**
     * The least triangle from bound to bound: twice its area is 1, the difference of two products of
     * some 2 * 10^18, where the digits of a double are 256 apart.
     */
    static LiveHull hair() {
        return with(-FAR, -FAR, 0, -1, FAR - 1, FAR - 3);
    }

    /** A low point in each half, a high one in the middle of all. */
    static LiveHull tent() {
        return with(0, 0, 2, 1, 4, 9, 6, 9, 8, 1, 10, 0);
    }

    static LiveHull level(int count) {
        LiveHull hull = new LiveHull();
        for (int k = 0; k < count; k++) {
            hull.add(k, 0);
        }
        return hull;
    }

    static LiveHull column(int count) {
        LiveHull hull = new LiveHull();
        for (int k = 0; k < count; k++) {
            hull.add(0, k);
        }
        return hull;
    }

    /** All are corners BELOW, the two ends alone ABOVE. */
    static LiveHull bowl(int count) {
        LiveHull hull = new LiveHull();
        for (int k = 0; k < count; k++) {
            hull.add(k, k * k);
        }
        return hull;
    }

    /** All 32 are corners: even IDs BELOW, odd ones ABOVE, each by X. */
    static LiveHull ring() {
        LiveHull hull = new LiveHull();
        for (int k = 0; k < 16; k++) {
            hull.add(k, k * k);
            hull.add(k, 1000 - k * k);
        }
        return hull;
    }

    /** 32 POINTS that are neither in a line nor all corners. */
    static LiveHull full() {
        LiveHull hull = new LiveHull();
        for (int k = 0; k < 32; k++) {
            hull.add(k % 7, k);
        }
        return hull;
    }

    /** Both IMAGES are kept, and neither is what is there. */
    static LiveHull withImages() {
        LiveHull hull = triangle();
        hull.image(0);
        hull.add(20, 20);
        hull.image(1);
        hull.remove(0);
        return hull;
    }
}
