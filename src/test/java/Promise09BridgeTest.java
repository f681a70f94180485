/** Promise 9: the ends of a BRIDGE; "UNKNOWN: no such PART; NO: it has no halves; OUTSIDE". */
public final class Promise09BridgeTest {
    private static final int ABOVE = 0, BELOW = 1;
    private static final Check check = new Check();

    public static void main(String[] args) throws IllegalAccessException {
        check.runAll(Promise09BridgeTest.class);
    }

    private static void bridgeIs(LiveHull hull, int part, int side, int from, int to) {
        check.due("bridge(" + part + ", " + side + ", 0)", hull.bridge(part, side, 0), from);
        check.due("bridge(" + part + ", " + side + ", 1)", hull.bridge(part, side, 1), to);
    }

    /** "the last corner of its CHAIN that is of the first half, the first one of the other" */
    static void goesFromTheLastToTheFirst() {
        LiveHull hull = Shapes.tent();
        bridgeIs(hull, 1, ABOVE, 2, 3);
        bridgeIs(hull, 1, BELOW, 0, 5);
        bridgeIs(hull, 2, BELOW, 1, 2);
        bridgeIs(hull, 2, ABOVE, 0, 2);
        bridgeIs(hull, 4, ABOVE, 0, 1);
        bridgeIs(Shapes.bowl(32), 1, BELOW, 15, 16);
        bridgeIs(Shapes.bowl(31), 1, BELOW, 15, 16);
    }

    static void ofTwoPoints() {
        bridgeIs(Shapes.two(), 1, ABOVE, 0, 1);
        bridgeIs(Shapes.two(), 1, BELOW, 0, 1);
    }

    static void ofTheDeepestPartWithHalves() {
        bridgeIs(Shapes.level(32), 16, ABOVE, 0, 1);
        bridgeIs(Shapes.level(32), 31, BELOW, 30, 31);
    }

    static void goesOverThoseStraightBetween() {
        bridgeIs(Shapes.level(32), 1, ABOVE, 0, 31);
        bridgeIs(Shapes.level(32), 1, BELOW, 0, 31);
    }

    /** "however wide" */
    static void goesByOneNearlyStraightBetween() {
        bridgeIs(Shapes.hair(), 1, ABOVE, 1, 2);
        bridgeIs(Shapes.hair(), 1, BELOW, 0, 2);
    }

    /** "NONE: there is no such corner" */
    static void noneIfTheFirstHalfHasNoCorner() {
        LiveHull hull = Shapes.with(3, 1, 3, 5, 3, 9);
        bridgeIs(hull, 1, ABOVE, LiveHull.NONE, 2);
        bridgeIs(hull, 2, ABOVE, LiveHull.NONE, 1);
        bridgeIs(Shapes.with(3, 1, 3, 5, 3, 9, 4, 4), 1, ABOVE, LiveHull.NONE, 2);
        check.refused(() -> Shapes.column(2), "end 0", column -> column.bridge(1, ABOVE, 0),
            LiveHull.NONE);
    }

    static void noneIfTheOtherHalfHasNoCorner() {
        LiveHull hull = Shapes.with(3, 1, 3, 5, 3, 9);
        bridgeIs(hull, 1, BELOW, 0, LiveHull.NONE);
        bridgeIs(hull, 2, BELOW, 0, LiveHull.NONE);
        bridgeIs(Shapes.with(2, 4, 3, 1, 3, 5, 3, 9), 1, BELOW, 1, LiveHull.NONE);
        check.refused(() -> Shapes.column(2), "end 1", column -> column.bridge(1, BELOW, 1),
            LiveHull.NONE);
    }

    /** The CHAINS that were longer once leave nothing behind. */
    static void noneWhateverWasAskedBefore() {
        LiveHull hull = Shapes.level(6);
        check.due("the last one BELOW", hull.chain(1, BELOW, 1), 5);
        for (int id = 0; id < 6; id++) {
            hull.move(id, 0, id + 1);
        }
        check.due("the other half BELOW", hull.bridge(1, BELOW, 1), LiveHull.NONE);
        check.due("the first half ABOVE", hull.bridge(1, ABOVE, 0), LiveHull.NONE);
    }

    static void unknownWithoutAPoint() {
        check.refused(Shapes::none, "bridge(1, 0, 0)", hull -> hull.bridge(1, 0, 0),
            LiveHull.UNKNOWN);
    }

    static void unknownIfItIsNoPart() {
        Check.Call call = (hull, part) -> hull.bridge(part, 1, 1);
        check.refusedEach(Shapes::two, Shapes.NO_PARTS, call, LiveHull.UNKNOWN);
        check.refusedEach(Shapes::full, Shapes.NO_PARTS, call, LiveHull.UNKNOWN);
        check.refused(Shapes::two, "a half of one", hull -> hull.bridge(4, 0, 0), LiveHull.UNKNOWN);
    }

    static void noIfItHasNoHalves() {
        check.refused(Shapes::one, "all of one", hull -> hull.bridge(1, 0, 0), LiveHull.NO);
        check.refused(Shapes::two, "bridge(2, 0, 0)", hull -> hull.bridge(2, 0, 0), LiveHull.NO);
        check.refused(Shapes::two, "bridge(3, 1, 1)", hull -> hull.bridge(3, 1, 1), LiveHull.NO);
        LiveHull full = Shapes.full();
        for (int part = 32; part <= 63; part++) {
            check.due("bridge(" + part + ", 0, 0) of 32", full.bridge(part, 0, 0), LiveHull.NO);
        }
    }

    static void outsideIfTheSideIsTooSmall() {
        check.refused(Shapes::two, "bridge(1, -1, 0)", hull -> hull.bridge(1, -1, 0),
            LiveHull.OUTSIDE);
        check.refused(Shapes::two, "least", hull -> hull.bridge(1, Shapes.LEAST, 0),
            LiveHull.OUTSIDE);
    }

    static void outsideIfTheSideIsTooLarge() {
        check.refused(Shapes::two, "bridge(1, 2, 0)", hull -> hull.bridge(1, 2, 0),
            LiveHull.OUTSIDE);
        check.refused(Shapes::two, "greatest", hull -> hull.bridge(1, Shapes.GREATEST, 0),
            LiveHull.OUTSIDE);
    }

    static void outsideIfTheEndIsTooSmall() {
        check.refused(Shapes::two, "bridge(1, 0, -1)", hull -> hull.bridge(1, 0, -1),
            LiveHull.OUTSIDE);
        check.refused(Shapes::two, "least", hull -> hull.bridge(1, 1, Shapes.LEAST),
            LiveHull.OUTSIDE);
    }

    static void outsideIfTheEndIsTooLarge() {
        check.refused(Shapes::two, "bridge(1, 0, 2)", hull -> hull.bridge(1, 0, 2),
            LiveHull.OUTSIDE);
        check.refused(Shapes::two, "greatest", hull -> hull.bridge(1, 1, Shapes.GREATEST),
            LiveHull.OUTSIDE);
    }

    /** "in this order": UNKNOWN, NO, OUTSIDE. */
    static void unknownAheadOfOutside() {
        check.refused(Shapes::two, "the side", hull -> hull.bridge(4, 2, 0), LiveHull.UNKNOWN);
        check.refused(Shapes::two, "the end", hull -> hull.bridge(0, 0, -1), LiveHull.UNKNOWN);
        check.refused(Shapes::none, "both", hull -> hull.bridge(1, 2, 2), LiveHull.UNKNOWN);
    }

    static void noAheadOfOutside() {
        check.refused(Shapes::two, "the side", hull -> hull.bridge(3, 2, 0), LiveHull.NO);
        check.refused(Shapes::two, "the end", hull -> hull.bridge(2, 0, -1), LiveHull.NO);
        check.refused(Shapes::one, "both", hull -> hull.bridge(1, -1, 2), LiveHull.NO);
    }

    /** A call that is refused does not come to NONE. */
    static void outsideAheadOfNone() {
        LiveHull hull = Shapes.column(2);
        check.due("the side", hull.bridge(1, 2, 0), LiveHull.OUTSIDE);
        check.due("the end", hull.bridge(1, BELOW, 2), LiveHull.OUTSIDE);
    }
}
