/** Promises 7 to 9: PARTS, their CHAINS and BRIDGES. */
public final class PartsTest {
    private static final int ABOVE = 0, BELOW = 1;
    private static final Check check = new Check();

    public static void main(String[] args) {
        partsAreHalved();
        partsOfThirtyTwo();
        chainsAndRests();
        partRefuses();
        chainOfOneColumn();
        chainKeepsNoStraightCorner();
        chainRefuses();
        bridges();
        bridgeRefuses();
        partsFollowChanges();
        check.end();
    }

    private static LiveHull flat(int count) {
        LiveHull hull = new LiveHull();
        for (int k = 0; k < count; k++) {
            hull.add(k, 0);
        }
        return hull;
    }

    private static void chainIs(LiveHull hull, int part, int side, long... ids) {
        long[] got = new long[ids.length];
        for (int k = 0; k < ids.length; k++) {
            got[k] = hull.chain(part, side, k);
        }
        check.row("chain(" + part + ", " + side + ", ..)", got, ids);
        check.due("chain, past its end", hull.chain(part, side, ids.length), LiveHull.NONE);
        check.due("corners of " + part, hull.part(part, 2 + side), ids.length);
    }

    private static void partIs(LiveHull hull, int part, int first, int size) {
        check.due("part(" + part + ", 0)", hull.part(part, 0), size);
        check.due("part(" + part + ", 1)", hull.part(part, 1), first);
    }

    private static void partsAreHalved() {
        check.about("promise 7, halves");
        LiveHull seven = flat(7);
        partIs(seven, 1, 0, 7);
        partIs(seven, 2, 0, 4);
        partIs(seven, 3, 4, 3);
        partIs(seven, 4, 0, 2);
        partIs(seven, 5, 2, 2);
        partIs(seven, 6, 4, 2);
        partIs(seven, 7, 6, 1);
        partIs(seven, 13, 5, 1);
        check.due("no halves of one", seven.part(14, 0), LiveHull.UNKNOWN);
        check.due("no halves of one", seven.part(15, 0), LiveHull.UNKNOWN);
        LiveHull one = flat(1);
        partIs(one, 1, 0, 1);
        check.due("one: part(2, 0)", one.part(2, 0), LiveHull.UNKNOWN);
        check.due("one: part(3, 0)", one.part(3, 0), LiveHull.UNKNOWN);
    }

    private static void partsOfThirtyTwo() {
        check.about("promise 7, 32 points");
        LiveHull hull = flat(32);
        for (int part = 1; part <= 63; part++) {
            int depth = 31 - Integer.numberOfLeadingZeros(part);
            int size = 32 >> depth;
            partIs(hull, part, (part - (1 << depth)) * size, size);
        }
        check.due("part(64, 0)", hull.part(64, 0), LiveHull.UNKNOWN);
        LiveHull odd = flat(17);
        partIs(odd, 16, 0, 2);
        partIs(odd, 32, 0, 1);
        partIs(odd, 33, 1, 1);
        check.due("odd: part(34, 0)", odd.part(34, 0), LiveHull.UNKNOWN);
    }

    private static void chainsAndRests() {
        check.about("promises 7, 8");
        // A low point in each half, a high one in the middle of all.
        LiveHull hull = Check.with(0, 0, 2, 1, 4, 9, 6, 9, 8, 1, 10, 0);
        chainIs(hull, 1, ABOVE, 0, 2, 3, 5);
        chainIs(hull, 1, BELOW, 0, 5);
        chainIs(hull, 2, ABOVE, 0, 2);
        chainIs(hull, 2, BELOW, 0, 1, 2);
        chainIs(hull, 3, BELOW, 3, 4, 5);
        check.due("rest of 2 ABOVE", hull.part(2, 4), 0);
        check.due("rest of 2 BELOW", hull.part(2, 5), 2);
        check.due("rest of 3 BELOW", hull.part(3, 5), 2);
        check.due("rest of 4 ABOVE", hull.part(4, 4), 1);
        check.due("rest of 4 BELOW", hull.part(4, 5), 0);
        check.due("rest of 1 ABOVE", hull.part(1, 4), LiveHull.NONE);
        check.due("rest of 1 BELOW", hull.part(1, 5), LiveHull.NONE);
    }

    private static void partRefuses() {
        check.about("promise 7, refused");
        LiveHull hull = flat(2);
        int[] none = {0, -1, 4, 5, 64, Integer.MIN_VALUE, Integer.MIN_VALUE + 1, Integer.MAX_VALUE};
        for (int part : none) {
            check.due("part(" + part + ", 0)", hull.part(part, 0), LiveHull.UNKNOWN);
            check.due("part(" + part + ", 9)", hull.part(part, 9), LiveHull.UNKNOWN);
        }
        check.due("part(1, -1)", hull.part(1, -1), LiveHull.OUTSIDE);
        check.due("part(1, 6)", hull.part(1, 6), LiveHull.OUTSIDE);
        check.due("part(3, 6)", hull.part(3, 6), LiveHull.OUTSIDE);
    }

    private static void chainOfOneColumn() {
        check.about("promise 8, one X");
        LiveHull hull = Check.with(3, 5, 3, 1, 3, 9, 3, 4);
        chainIs(hull, 1, ABOVE, 2);
        chainIs(hull, 1, BELOW, 1);
        chainIs(hull, 2, ABOVE, 3);
        chainIs(hull, 3, BELOW, 0);
        LiveHull box = Check.with(0, 0, 0, 5, 0, 9, 9, 9, 9, 5, 9, 0);
        chainIs(box, 1, ABOVE, 2, 3);
        chainIs(box, 1, BELOW, 0, 5);
        LiveHull kite = Check.with(0, 0, 2, -3, 2, 0, 2, 3, 4, 0);
        chainIs(kite, 1, ABOVE, 0, 3, 4);
        chainIs(kite, 1, BELOW, 0, 1, 4);
    }

    private static void chainKeepsNoStraightCorner() {
        check.about("promise 8, straight");
        LiveHull hull = Check.with(0, 0, 1, 2, 2, 4, 3, 6, 4, 0, 2, 0);
        chainIs(hull, 1, ABOVE, 0, 3, 4);
        chainIs(hull, 1, BELOW, 0, 4);
        // So wide that 32 bits, or the digits of a double, would not do.
        int far = 1000000000;
        LiveHull wide = Check.with(-far, -far, 0, 0, far, far);
        chainIs(wide, 1, ABOVE, 0, 2);
        wide.move(1, 0, 1);
        chainIs(wide, 1, ABOVE, 0, 1, 2);
        chainIs(wide, 1, BELOW, 0, 2);
        LiveHull fine = Check.with(-far, -far, far - 1, far - 1, far, far);
        chainIs(fine, 1, ABOVE, 0, 2);
        fine.move(1, far - 1, far - 2);
        chainIs(fine, 1, BELOW, 0, 1, 2);
    }

    private static void chainRefuses() {
        check.about("promise 8, refused");
        LiveHull hull = flat(3);
        check.due("UNKNOWN ahead of OUTSIDE", hull.chain(7, 2, 0), LiveHull.UNKNOWN);
        check.due("chain(0, 0, 0)", hull.chain(0, 0, 0), LiveHull.UNKNOWN);
        check.due("chain(64, 0, 0)", hull.chain(64, 0, 0), LiveHull.UNKNOWN);
        check.due("chain(1, 2, 0)", hull.chain(1, 2, 0), LiveHull.OUTSIDE);
        check.due("chain(1, -1, 0)", hull.chain(1, -1, 0), LiveHull.OUTSIDE);
        check.due("OUTSIDE ahead of NONE", hull.chain(1, 2, 99), LiveHull.OUTSIDE);
        check.due("chain(1, 0, -1)", hull.chain(1, 0, -1), LiveHull.NONE);
        check.due("chain(1, 0, 2)", hull.chain(1, 0, 2), LiveHull.NONE);
        check.due("chain(1, 0, greatest)", hull.chain(1, 0, Integer.MAX_VALUE), LiveHull.NONE);
        check.due("chain(1, 0, least)", hull.chain(1, 0, Integer.MIN_VALUE), LiveHull.NONE);
    }

    private static void bridgeIs(LiveHull hull, int part, int side, int from, int to) {
        check.due("bridge(" + part + ", " + side + ", 0)", hull.bridge(part, side, 0), from);
        check.due("bridge(" + part + ", " + side + ", 1)", hull.bridge(part, side, 1), to);
    }

    private static void bridges() {
        check.about("promise 9");
        LiveHull hull = Check.with(0, 0, 2, 1, 4, 9, 6, 9, 8, 1, 10, 0);
        bridgeIs(hull, 1, ABOVE, 2, 3);
        bridgeIs(hull, 1, BELOW, 0, 5);
        bridgeIs(hull, 2, BELOW, 1, 2);
        bridgeIs(hull, 2, ABOVE, 0, 2);
        bridgeIs(hull, 4, ABOVE, 0, 1);
        LiveHull column = Check.with(3, 1, 3, 5, 3, 9);
        bridgeIs(column, 1, ABOVE, LiveHull.NONE, 2);
        bridgeIs(column, 1, BELOW, 0, LiveHull.NONE);
        bridgeIs(column, 2, ABOVE, LiveHull.NONE, 1);
        LiveHull full = flat(32);
        bridgeIs(full, 31, ABOVE, 30, 31);
        bridgeIs(full, 1, BELOW, 0, 31);
    }

    private static void bridgeRefuses() {
        check.about("promise 9, refused");
        LiveHull hull = flat(3);
        check.due("UNKNOWN ahead of all", hull.bridge(7, 2, 2), LiveHull.UNKNOWN);
        check.due("bridge(0, 0, 0)", hull.bridge(0, 0, 0), LiveHull.UNKNOWN);
        check.due("bridge(least, 0, 0)", hull.bridge(Integer.MIN_VALUE, 0, 0), LiveHull.UNKNOWN);
        check.due("NO ahead of OUTSIDE", hull.bridge(3, 2, 2), LiveHull.NO);
        check.due("bridge(3, 0, 0)", hull.bridge(3, 0, 0), LiveHull.NO);
        check.due("bridge(1, 2, 0)", hull.bridge(1, 2, 0), LiveHull.OUTSIDE);
        check.due("bridge(1, -1, 0)", hull.bridge(1, -1, 0), LiveHull.OUTSIDE);
        check.due("bridge(1, 0, 2)", hull.bridge(1, 0, 2), LiveHull.OUTSIDE);
        check.due("bridge(1, 0, -1)", hull.bridge(1, 0, -1), LiveHull.OUTSIDE);
        LiveHull full = flat(32);
        check.due("full: bridge(32, 0, 0)", full.bridge(32, 0, 0), LiveHull.NO);
        check.due("full: bridge(63, 1, 1)", full.bridge(63, 1, 1), LiveHull.NO);
        check.due("full: bridge(64, 0, 0)", full.bridge(64, 0, 0), LiveHull.UNKNOWN);
    }

    private static void partsFollowChanges() {
        check.about("promises 2 to 4, 7");
        LiveHull hull = flat(5);
        hull.remove(0);
        partIs(hull, 2, 0, 2);
        partIs(hull, 3, 2, 2);
        check.due("part(9, 0)", hull.part(9, 0), LiveHull.UNKNOWN);
        chainIs(hull, 2, ABOVE, 1, 2);
        hull.move(1, 9, 5);
        chainIs(hull, 2, ABOVE, 2, 3);
        chainIs(hull, 3, BELOW, 4, 1);
    }
}
