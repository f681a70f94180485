/** Promise 7: what a PART is; "UNKNOWN; OUTSIDE". */
public final class Promise07PartTest {
    private static final Check check = new Check();

    public static void main(String[] args) throws IllegalAccessException {
        check.runAll(Promise07PartTest.class);
    }

    private static void partIs(LiveHull hull, int part, int first, int size) {
        check.due("part(" + part + ", 0)", hull.part(part, 0), size);
        check.due("part(" + part + ", 1)", hull.part(part, 1), first);
    }

    private static void restIs(LiveHull hull, int part, int above, int below) {
        check.due("part(" + part + ", 4)", hull.part(part, 4), above);
        check.due("part(" + part + ", 5)", hull.part(part, 5), below);
    }

    private static void cornersAre(LiveHull hull, int part, int above, int below) {
        check.due("part(" + part + ", 2)", hull.part(part, 2), above);
        check.due("part(" + part + ", 3)", hull.part(part, 3), below);
    }

    private static void isNoPart(LiveHull hull, int part) {
        for (int what = 0; what < 6; what++) {
            check.due("part(" + part + ", " + what + ")", hull.part(part, what), LiveHull.UNKNOWN);
        }
    }

    /** "PART 1 has all POINTS" */
    static void oneHasAll() {
        for (int count = 1; count <= 32; count++) {
            partIs(Shapes.level(count), 1, 0, count);
        }
    }

    /** "(if there is one)" */
    static void unknownWithoutAPoint() {
        check.refused(Shapes::none, "part(1, 0)", hull -> hull.part(1, 0), LiveHull.UNKNOWN);
        isNoPart(new LiveHull(), 1);
    }

    /** "A PART k of more than one has two halves" */
    static void ofOneHasNoHalves() {
        LiveHull one = Shapes.one();
        isNoPart(one, 2);
        isNoPart(one, 3);
        LiveHull three = Shapes.level(3);
        isNoPart(three, 6);
        isNoPart(three, 7);
        isNoPart(three, 8);
        isNoPart(three, 10);
    }

    static void ofTwoHasTwoHalves() {
        LiveHull hull = Shapes.two();
        partIs(hull, 2, 0, 1);
        partIs(hull, 3, 1, 1);
        isNoPart(hull, 4);
        isNoPart(hull, 5);
    }

    /** "of an odd number one more than the rest" */
    static void ofAnOddNumberHasOneMoreFirst() {
        LiveHull seven = Shapes.level(7);
        partIs(seven, 2, 0, 4);
        partIs(seven, 3, 4, 3);
        partIs(seven, 6, 4, 2);
        partIs(seven, 7, 6, 1);
        partIs(seven, 13, 5, 1);
        for (int count = 3; count < 32; count += 2) {
            LiveHull hull = Shapes.level(count);
            partIs(hull, 2, 0, (count + 1) / 2);
            partIs(hull, 3, (count + 1) / 2, count / 2);
        }
    }

    static void ofAnEvenNumberHasEqualHalves() {
        for (int count = 2; count <= 32; count += 2) {
            LiveHull hull = Shapes.level(count);
            partIs(hull, 2, 0, count / 2);
            partIs(hull, 3, count / 2, count / 2);
        }
    }

    static void sixtyThreeOfThirtyTwo() {
        LiveHull hull = Shapes.level(32);
        for (int part = 1; part <= 63; part++) {
            int depth = 31 - Integer.numberOfLeadingZeros(part);
            int size = 32 >> depth;
            partIs(hull, part, (part - (1 << depth)) * size, size);
        }
        isNoPart(hull, 64);
        isNoPart(hull, 126);
        isNoPart(hull, 127);
    }

    static void theDeepestOfSeventeen() {
        LiveHull hull = Shapes.level(17);
        partIs(hull, 16, 0, 2);
        partIs(hull, 32, 0, 1);
        partIs(hull, 33, 1, 1);
        isNoPart(hull, 34);
        isNoPart(hull, 63);
    }

    static void cornersOfOnePoint() {
        cornersAre(Shapes.one(), 1, 1, 1);
        cornersAre(Shapes.full(), 32, 1, 1);
        cornersAre(Shapes.full(), 63, 1, 1);
    }

    static void cornersOfOneX() {
        cornersAre(Shapes.column(32), 1, 1, 1);
    }

    static void cornersOfAll() {
        cornersAre(Shapes.bowl(32), 1, 2, 32);
        cornersAre(Shapes.tent(), 1, 4, 2);
        cornersAre(Shapes.tent(), 2, 2, 3);
        cornersAre(Shapes.square(), 1, 2, 2);
        cornersAre(Shapes.hair(), 1, 3, 2);
    }

    /** "of PART 1: NONE" */
    static void restOfOneIsNone() {
        restIs(Shapes.one(), 1, LiveHull.NONE, LiveHull.NONE);
        restIs(Shapes.tent(), 1, LiveHull.NONE, LiveHull.NONE);
        restIs(Shapes.full(), 1, LiveHull.NONE, LiveHull.NONE);
    }

    static void restIsNothingIfAllAreNeeded() {
        LiveHull hull = Shapes.bowl(32);
        check.due("part(2, 5)", hull.part(2, 5), 0);
        check.due("part(3, 5)", hull.part(3, 5), 0);
        check.due("part(63, 5)", hull.part(63, 5), 0);
        restIs(Shapes.two(), 2, 0, 0);
        restIs(Shapes.two(), 3, 0, 0);
    }

    static void restIsAllIfNoneIsNeeded() {
        LiveHull hull = Shapes.with(4, 4, 4, 5);
        restIs(hull, 2, 1, 0);
        restIs(hull, 3, 0, 1);
    }

    static void restIsWhatTheGreaterPartDoesNotNeed() {
        LiveHull hull = Shapes.tent();
        restIs(hull, 2, 0, 2);
        restIs(hull, 3, 0, 2);
        restIs(hull, 4, 1, 0);
        restIs(hull, 5, 0, 0);
    }

    static void partsFollowWhatComesAndGoes() {
        LiveHull hull = Shapes.level(5);
        partIs(hull, 8, 0, 1);
        hull.remove(0);
        partIs(hull, 2, 0, 2);
        partIs(hull, 3, 2, 2);
        isNoPart(hull, 8);
        hull.add(9, 9);
        partIs(hull, 8, 0, 1);
        hull.image(0);
        hull.remove(1);
        hull.restore(0);
        partIs(hull, 2, 0, 3);
    }

    static void unknownIfItIsNoPart() {
        for (int part : Shapes.NO_PARTS) {
            isNoPart(Shapes.two(), part);
            isNoPart(Shapes.full(), part);
        }
        check.refused(Shapes::full, "part(64, 0)", hull -> hull.part(64, 0), LiveHull.UNKNOWN);
        check.refused(Shapes::full, "part(0, 0)", hull -> hull.part(0, 0), LiveHull.UNKNOWN);
    }

    static void outsideIfWhatIsTooSmall() {
        check.refused(Shapes::two, "part(1, -1)", hull -> hull.part(1, -1), LiveHull.OUTSIDE);
        check.refused(Shapes::two, "least", hull -> hull.part(3, Shapes.LEAST), LiveHull.OUTSIDE);
    }

    static void outsideIfWhatIsTooLarge() {
        check.refused(Shapes::two, "part(1, 6)", hull -> hull.part(1, 6), LiveHull.OUTSIDE);
        check.refused(Shapes::two, "greatest", hull -> hull.part(3, Shapes.GREATEST),
            LiveHull.OUTSIDE);
    }

    /** "the first of these that fits": UNKNOWN, OUTSIDE. */
    static void unknownAheadOfOutside() {
        check.refused(Shapes::two, "part(4, 6)", hull -> hull.part(4, 6), LiveHull.UNKNOWN);
        check.refused(Shapes::two, "part(0, -1)", hull -> hull.part(0, -1), LiveHull.UNKNOWN);
        check.refused(Shapes::none, "part(1, 6)", hull -> hull.part(1, 6), LiveHull.UNKNOWN);
    }
}
