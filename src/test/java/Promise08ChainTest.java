import java.util.function.Supplier;

/** Promise 8: "The ID of the k-th corner of a CHAIN; NONE. UNKNOWN: the PART; OUTSIDE: the side". */
public final class Promise08ChainTest {
    private static final int FAR = Shapes.FAR;
    private static final int ABOVE = 0, BELOW = 1;
    private static final Check check = new Check();

    public static void main(String[] args) throws IllegalAccessException {
        check.runAll(Promise08ChainTest.class);
    }

    private static void chainIs(LiveHull hull, int part, int side, long... ids) {
        long[] got = new long[ids.length];
        for (int k = 0; k < ids.length; k++) {
            got[k] = hull.chain(part, side, k);
        }
        String call = "chain(" + part + ", " + side + ", ..)";
        check.row(call, got, ids);
        check.due(call + " past its end", hull.chain(part, side, ids.length), LiveHull.NONE);
    }

    static void ofOnePointIsThatPoint() {
        chainIs(Shapes.one(), 1, ABOVE, 0);
        chainIs(Shapes.one(), 1, BELOW, 0);
        chainIs(Shapes.level(3), 5, ABOVE, 1);
        chainIs(Shapes.level(3), 3, BELOW, 2);
    }

    static void ofTwoPointsIsBothFromTheLeft() {
        chainIs(Shapes.with(9, 0, 2, 5), 1, ABOVE, 1, 0);
        chainIs(Shapes.with(9, 0, 2, 5), 1, BELOW, 1, 0);
    }

    static void bendsToTheRightAboveToTheLeftBelow() {
        chainIs(Shapes.tent(), 1, ABOVE, 0, 2, 3, 5);
        chainIs(Shapes.tent(), 1, BELOW, 0, 5);
        chainIs(Shapes.tent(), 2, ABOVE, 0, 2);
        chainIs(Shapes.tent(), 2, BELOW, 0, 1, 2);
        chainIs(Shapes.tent(), 3, BELOW, 3, 4, 5);
    }

    /** "of these the one of the greatest Y, or of the least" */
    static void ofOneXIsOnePointASide() {
        LiveHull hull = Shapes.with(3, 5, 3, 1, 3, 9, 3, 4);
        chainIs(hull, 1, ABOVE, 2);
        chainIs(hull, 1, BELOW, 1);
        chainIs(hull, 2, ABOVE, 3);
        chainIs(hull, 3, BELOW, 0);
    }

    static void beginsAtTheGreatestOrLeastYOfTheLeastX() {
        LiveHull hull = Shapes.with(0, 5, 0, 0, 0, 9, 7, 4);
        chainIs(hull, 1, ABOVE, 2, 3);
        chainIs(hull, 1, BELOW, 1, 3);
    }

    /** "that of the greatest X (likewise)" */
    static void endsAtTheGreatestOrLeastYOfTheGreatestX() {
        LiveHull hull = Shapes.with(9, 5, 9, 0, 9, 9, 2, 4);
        chainIs(hull, 1, ABOVE, 3, 2);
        chainIs(hull, 1, BELOW, 3, 1);
    }

    static void hidesTheOthersOfOneXInTheMiddle() {
        LiveHull hull = Shapes.with(0, 0, 2, -3, 2, 0, 2, 3, 4, 0);
        chainIs(hull, 1, ABOVE, 0, 3, 4);
        chainIs(hull, 1, BELOW, 0, 1, 4);
    }

    /** "POINTS that lie straight between two others are no corners" */
    static void hasNoneStraightBetweenTwoOthers() {
        LiveHull hull = Shapes.with(0, 0, 1, 2, 2, 4, 3, 6, 4, 0, 2, 0);
        chainIs(hull, 1, ABOVE, 0, 3, 4);
        chainIs(hull, 1, BELOW, 0, 4);
        chainIs(Shapes.level(32), 1, ABOVE, 0, 31);
        chainIs(Shapes.level(32), 1, BELOW, 0, 31);
    }

    /** "all in whole numbers, however wide": neither 32 bits nor a double's digits would do. */
    static void tellsStraightFromBentHoweverWide() {
        LiveHull middle = Shapes.with(-FAR, -FAR, 0, 0, FAR, FAR);
        chainIs(middle, 1, ABOVE, 0, 2);
        chainIs(middle, 1, BELOW, 0, 2);
        middle.move(1, 0, 1);
        chainIs(middle, 1, ABOVE, 0, 1, 2);
        chainIs(middle, 1, BELOW, 0, 2);
        LiveHull end = Shapes.with(-FAR, -FAR, FAR - 1, FAR - 1, FAR, FAR);
        chainIs(end, 1, ABOVE, 0, 2);
        end.move(1, FAR - 1, FAR - 2);
        chainIs(end, 1, ABOVE, 0, 2);
        chainIs(end, 1, BELOW, 0, 1, 2);
        LiveHull hair = Shapes.hair();
        chainIs(hair, 1, ABOVE, 0, 1, 2);
        chainIs(hair, 1, BELOW, 0, 2);
        hair.move(1, -1, -2);
        chainIs(hair, 1, ABOVE, 0, 2);
        chainIs(hair, 1, BELOW, 0, 1, 2);
    }

    /** The greatest bend there can be: twice the area of half of all. */
    static void bendsAtTheBounds() {
        LiveHull above = Shapes.with(-FAR, -FAR, -FAR + 1, FAR, FAR, -FAR);
        chainIs(above, 1, ABOVE, 0, 1, 2);
        chainIs(above, 1, BELOW, 0, 2);
        LiveHull below = Shapes.with(-FAR, FAR, FAR - 1, -FAR, FAR, FAR);
        chainIs(below, 1, ABOVE, 0, 2);
        chainIs(below, 1, BELOW, 0, 1, 2);
        LiveHull widest = Shapes.widest();
        chainIs(widest, 1, ABOVE, 3, 2);
        chainIs(widest, 1, BELOW, 0, 1);
    }

    static void hasThirtyTwoCornersAtMost() {
        long[] all = new long[32];
        for (int k = 0; k < 32; k++) {
            all[k] = k;
        }
        chainIs(Shapes.bowl(32), 1, BELOW, all);
        chainIs(Shapes.bowl(32), 1, ABOVE, 0, 31);
    }

    static void noneIfKIsTooSmall() {
        int[] ks = {-1, -2, -6, Shapes.LEAST};
        check.refusedEach(Shapes::two, ks, (hull, k) -> hull.chain(1, ABOVE, k), LiveHull.NONE);
        check.refusedEach(Shapes::two, ks, (hull, k) -> hull.chain(1, BELOW, k), LiveHull.NONE);
    }

    static void noneIfKIsTooLarge() {
        int[] ks = {2, 3, 31, 32, 33, Shapes.GREATEST};
        Supplier<LiveHull> bowl = () -> Shapes.bowl(32);
        check.refusedEach(Shapes::two, ks, (hull, k) -> hull.chain(1, BELOW, k), LiveHull.NONE);
        check.refusedEach(bowl, ks, (hull, k) -> hull.chain(1, ABOVE, k), LiveHull.NONE);
        check.due("past 32", Shapes.bowl(32).chain(1, BELOW, 32), LiveHull.NONE);
    }

    static void unknownWithoutAPoint() {
        check.refused(Shapes::none, "chain(1, 0, 0)", hull -> hull.chain(1, 0, 0), LiveHull.UNKNOWN);
    }

    static void unknownIfItIsNoPart() {
        Check.Call call = (hull, part) -> hull.chain(part, 0, 0);
        check.refusedEach(Shapes::two, Shapes.NO_PARTS, call, LiveHull.UNKNOWN);
        check.refusedEach(Shapes::full, Shapes.NO_PARTS, call, LiveHull.UNKNOWN);
        check.refused(Shapes::two, "a half of one", hull -> hull.chain(4, 0, 0), LiveHull.UNKNOWN);
    }

    static void outsideIfTheSideIsTooSmall() {
        check.refused(Shapes::two, "chain(1, -1, 0)", hull -> hull.chain(1, -1, 0),
            LiveHull.OUTSIDE);
        check.refused(Shapes::two, "least", hull -> hull.chain(1, Shapes.LEAST, 0),
            LiveHull.OUTSIDE);
    }

    static void outsideIfTheSideIsTooLarge() {
        check.refused(Shapes::two, "chain(1, 2, 0)", hull -> hull.chain(1, 2, 0), LiveHull.OUTSIDE);
        check.refused(Shapes::two, "greatest", hull -> hull.chain(1, Shapes.GREATEST, 0),
            LiveHull.OUTSIDE);
    }

    /** "the first of these that fits": UNKNOWN, OUTSIDE. */
    static void unknownAheadOfOutside() {
        check.refused(Shapes::two, "chain(4, 2, 0)", hull -> hull.chain(4, 2, 0), LiveHull.UNKNOWN);
        check.refused(Shapes::none, "chain(1, -1, 0)", hull -> hull.chain(1, -1, 0),
            LiveHull.UNKNOWN);
    }

    /** A call that is refused does not come to NONE. */
    static void refusedAheadOfNone() {
        check.refused(Shapes::two, "the side", hull -> hull.chain(1, 2, 99), LiveHull.OUTSIDE);
        check.refused(Shapes::two, "the PART", hull -> hull.chain(4, 0, -1), LiveHull.UNKNOWN);
    }
}
