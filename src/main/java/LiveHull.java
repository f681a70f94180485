/**
 * Points that come and go, and what lies round them, by halves.
 *
 * Only the POINTS are kept, in the order of their RANK; chains and what lies round are traced anew
 * from them when a call asks, in rows that the constructor makes, so that no call makes an object.
 */
public final class LiveHull {
    public static final int NONE = -6, UNKNOWN = -1, OUTSIDE = -2, STATE = -3, FULL = -4, NO = -5;

    private static final int MOST_POINTS = 32;
    // Five halvings bring 32 POINTS down to single ones, so no PART has a greater number.
    private static final int LAST_PART = 63;
    private static final int FARTHEST = 1000000000;
    private static final int IMAGES = 2;
    private static final int ABOVE = 0, BELOW = 1;
    private static final int LEFT = 0;
    private static final int OUT = 0, AT_CORNER = 1, AT_EDGE = 2, IN = 3;

    private final Points points;
    private final Parts parts;
    private final Chain traced;
    private final Chain tracedGreater;
    private final Ring ring;
    private final Points[] images;
    private final boolean[] kept;

    public LiveHull() {
        points = new Points();
        parts = new Parts();
        traced = new Chain();
        tracedGreater = new Chain();
        ring = new Ring();
        images = new Points[] {new Points(), new Points()};
        kept = new boolean[IMAGES];
    }

    // ---- 1 points

    public int add(int x, int y) {
        if (!isPlace(x, y)) {
            return OUTSIDE;
        }
        if (points.isTaken(x, y)) {
            return NO;
        }
        int id = points.leastFreeId();
        if (id == NONE) {
            return FULL;
        }
        points.insert(id, x, y);
        parts.split(points.count);
        return id;
    }

    public int remove(int id) {
        int rank = points.rankOf(id);
        if (rank == NONE) {
            return UNKNOWN;
        }
        points.delete(rank);
        parts.split(points.count);
        return points.count;
    }

    public int move(int id, int x, int y) {
        int rank = points.rankOf(id);
        if (rank == NONE) {
            return UNKNOWN;
        }
        if (!isPlace(x, y)) {
            return OUTSIDE;
        }
        if (points.isTaken(x, y)) {
            return NO;
        }
        points.delete(rank);
        points.insert(id, x, y);
        return 1;
    }

    public int point(int id, int what) {
        int rank = points.rankOf(id);
        if (rank == NONE) {
            return UNKNOWN;
        }
        switch (what) {
            case 0:
                return points.xs[rank];
            case 1:
                return points.ys[rank];
            case 2:
                return rank;
            case 3:
                return topOf(rank, ABOVE);
            case 4:
                return topOf(rank, BELOW);
            default:
                return OUTSIDE;
        }
    }

    public int ranked(int rank) {
        return points.idAt(rank);
    }

    // ---- 2 parts

    public int part(int part, int what) {
        if (!parts.has(part)) {
            return UNKNOWN;
        }
        switch (what) {
            case 0:
                return parts.sizes[part];
            case 1:
                return parts.firsts[part];
            case 2:
                return cornersOf(part, ABOVE);
            case 3:
                return cornersOf(part, BELOW);
            case 4:
                return part == 1 ? NONE : restOf(part, ABOVE);
            case 5:
                return part == 1 ? NONE : restOf(part, BELOW);
            default:
                return OUTSIDE;
        }
    }

    public int chain(int part, int side, int k) {
        if (!parts.has(part)) {
            return UNKNOWN;
        }
        if (!isSide(side)) {
            return OUTSIDE;
        }
        trace(traced, part, side);
        return points.idAt(traced.rankAt(k));
    }

    public int bridge(int part, int side, int end) {
        if (!parts.has(part)) {
            return UNKNOWN;
        }
        if (!parts.hasHalves(part)) {
            return NO;
        }
        if (!isSide(side) || end < 0 || end > 1) {
            return OUTSIDE;
        }
        trace(traced, part, side);
        int border = parts.firsts[2 * part + 1];
        return points.idAt(end == 0 ? traced.lastBefore(border) : traced.firstFrom(border));
    }

    // ---- 3 what lies round

    public int round(int k) {
        gatherRing();
        return k == -1 ? ring.size : points.idAt(ring.rankAt(k));
    }

    public int extreme(int dx, int dy) {
        if (!isPlace(dx, dy)) {
            return OUTSIDE;
        }
        if (points.count == 0 || (dx == 0 && dy == 0)) {
            return NO;
        }
        gatherRing();
        return points.idAt(ring.farthest(points, dx, dy));
    }

    public int where(int x, int y) {
        if (!isPlace(x, y)) {
            return OUTSIDE;
        }
        gatherRing();
        return ring.locate(points, x, y);
    }

    public int touch(int x, int y, int side) {
        if (!isPlace(x, y) || !isSide(side)) {
            return OUTSIDE;
        }
        if (points.count == 0) {
            return NO;
        }
        gatherRing();
        if (ring.locate(points, x, y) != OUT) {
            return STATE;
        }
        return points.idAt(ring.nearestTouching(points, x, y, side));
    }

    public long area() {
        gatherRing();
        return ring.doubleArea(points);
    }

    public int image(int n) {
        if (!isImage(n)) {
            return OUTSIDE;
        }
        images[n].copyFrom(points);
        kept[n] = true;
        return 1;
    }

    public int restore(int n) {
        if (!isImage(n)) {
            return OUTSIDE;
        }
        if (!kept[n]) {
            return STATE;
        }
        points.copyFrom(images[n]);
        parts.split(points.count);
        return 1;
    }

    public int told(int what) {
        switch (what) {
            case 0:
                return points.count;
            case 1:
                return parts.howMany();
            case 2:
                return cornersOfAll();
            case 3:
                return restsOfAll();
            case 4:
                return parts.greatestDepth();
            default:
                return OUTSIDE;
        }
    }

    // ---- what the calls share

    private static boolean isPlace(int x, int y) {
        return x >= -FARTHEST && x <= FARTHEST && y >= -FARTHEST && y <= FARTHEST;
    }

    private static boolean isSide(int side) {
        return side == ABOVE || side == BELOW;
    }

    private static boolean isImage(int n) {
        return n >= 0 && n < IMAGES;
    }

    /** The PART must be there. */
    private void trace(Chain into, int part, int side) {
        into.trace(points, parts.firsts[part], parts.sizes[part], side);
    }

    private int cornersOf(int part, int side) {
        trace(traced, part, side);
        return traced.size;
    }

    /** The PART must be there, and not be PART 1. */
    private int restOf(int part, int side) {
        trace(traced, part, side);
        trace(tracedGreater, part / 2, side);
        int rest = 0;
        for (int k = 0; k < traced.size; k++) {
            if (!tracedGreater.has(traced.ranks[k])) {
                rest++;
            }
        }
        return rest;
    }

    private int topOf(int rank, int side) {
        // A lesser number is never of a greater DEPTH, so the first PART found is the topmost.
        for (int part = 1; part <= LAST_PART; part++) {
            if (parts.holds(part, rank)) {
                trace(traced, part, side);
                if (traced.has(rank)) {
                    return Parts.depthOf(part);
                }
            }
        }
        return NONE;
    }

    private int cornersOfAll() {
        int sum = 0;
        for (int part = 1; part <= LAST_PART; part++) {
            if (parts.has(part)) {
                sum += cornersOf(part, ABOVE) + cornersOf(part, BELOW);
            }
        }
        return sum;
    }

    private int restsOfAll() {
        int sum = 0;
        for (int part = 2; part <= LAST_PART; part++) {
            if (parts.has(part)) {
                sum += restOf(part, ABOVE) + restOf(part, BELOW);
            }
        }
        return sum;
    }

    private void gatherRing() {
        ring.clear();
        traced.trace(points, 0, points.count, BELOW);
        ring.takeRightward(traced);
        traced.trace(points, 0, points.count, ABOVE);
        ring.takeLeftward(traced);
    }

    /** The POINTS; row r of each array tells of the POINT of RANK r. */
    private static final class Points {
        final int[] ids = new int[MOST_POINTS];
        final int[] xs = new int[MOST_POINTS];
        final int[] ys = new int[MOST_POINTS];
        int count = 0;

        int idAt(int rank) {
            return rank >= 0 && rank < count ? ids[rank] : NONE;
        }

        int rankOf(int id) {
            for (int rank = 0; rank < count; rank++) {
                if (ids[rank] == id) {
                    return rank;
                }
            }
            return NONE;
        }

        boolean isTaken(int x, int y) {
            for (int rank = 0; rank < count; rank++) {
                if (isAt(rank, x, y)) {
                    return true;
                }
            }
            return false;
        }

        boolean isAt(int rank, int x, int y) {
            return xs[rank] == x && ys[rank] == y;
        }

        int leastFreeId() {
            for (int id = 0; id < MOST_POINTS; id++) {
                if (rankOf(id) == NONE) {
                    return id;
                }
            }
            return NONE;
        }

        void insert(int id, int x, int y) {
            if (count >= MOST_POINTS) {
                return;
            }
            int rank = count;
            while (rank > 0 && isBefore(x, y, rank - 1)) {
                setRow(rank, ids[rank - 1], xs[rank - 1], ys[rank - 1]);
                rank--;
            }
            setRow(rank, id, x, y);
            count++;
        }

        void delete(int rank) {
            if (rank < 0 || rank >= count) {
                return;
            }
            for (int next = rank + 1; next < count; next++) {
                setRow(next - 1, ids[next], xs[next], ys[next]);
            }
            count--;
        }

        void copyFrom(Points other) {
            for (int rank = 0; rank < other.count; rank++) {
                setRow(rank, other.ids[rank], other.xs[rank], other.ys[rank]);
            }
            count = other.count;
        }

        private boolean isBefore(int x, int y, int rank) {
            return x < xs[rank] || (x == xs[rank] && y < ys[rank]);
        }

        private void setRow(int rank, int id, int x, int y) {
            ids[rank] = id;
            xs[rank] = x;
            ys[rank] = y;
        }

        /**
         * More than 0 if a place lies to the left of the line from one POINT to another, less if to
         * the right. No difference is beyond 2 * 10^9, so the products and what they differ by
         * (8 * 10^18 at most) fit a long.
         */
        long turn(int from, int to, int x, int y) {
            long alongX = (long) xs[to] - xs[from];
            long alongY = (long) ys[to] - ys[from];
            long awayX = (long) x - xs[from];
            long awayY = (long) y - ys[from];
            return alongX * awayY - alongY * awayX;
        }

        boolean isBoxed(int one, int other, int x, int y) {
            return x >= Math.min(xs[one], xs[other]) && x <= Math.max(xs[one], xs[other])
                && y >= Math.min(ys[one], ys[other]) && y <= Math.max(ys[one], ys[other]);
        }

        long reach(int rank, int dx, int dy) {
            return (long) dx * xs[rank] + (long) dy * ys[rank];
        }

        long squaredDistance(int rank, int x, int y) {
            long awayX = (long) x - xs[rank];
            long awayY = (long) y - ys[rank];
            return awayX * awayX + awayY * awayY;
        }
    }

    /** Which RANKS each PART has; a PART of size 0 is not there. */
    private static final class Parts {
        final int[] firsts = new int[LAST_PART + 1];
        final int[] sizes = new int[LAST_PART + 1];

        void split(int count) {
            firsts[1] = 0;
            sizes[1] = count;
            for (int part = 1; 2 * part + 1 <= LAST_PART; part++) {
                splitPart(part);
            }
        }

        private void splitPart(int part) {
            int size = sizes[part];
            boolean halved = size > 1;
            int half = (size + 1) / 2;
            firsts[2 * part] = firsts[part];
            sizes[2 * part] = halved ? half : 0;
            firsts[2 * part + 1] = firsts[part] + half;
            sizes[2 * part + 1] = halved ? size - half : 0;
        }

        boolean has(int part) {
            return part >= 1 && part <= LAST_PART && sizes[part] > 0;
        }

        boolean hasHalves(int part) {
            return has(part) && part <= LAST_PART / 2 && sizes[part] > 1;
        }

        boolean holds(int part, int rank) {
            return has(part) && rank >= firsts[part] && rank < firsts[part] + sizes[part];
        }

        int howMany() {
            int parts = 0;
            for (int part = 1; part <= LAST_PART; part++) {
                if (has(part)) {
                    parts++;
                }
            }
            return parts;
        }

        int greatestDepth() {
            for (int part = LAST_PART; part >= 1; part--) {
                if (has(part)) {
                    return depthOf(part);
                }
            }
            return NONE;
        }

        static int depthOf(int part) {
            int depth = 0;
            for (int greater = part / 2; greater >= 1; greater /= 2) {
                depth++;
            }
            return depth;
        }
    }

    /** Corners in a row, each by its RANK. */
    private abstract static class Corners {
        final int[] ranks = new int[MOST_POINTS];
        int size = 0;

        int rankAt(int k) {
            return k >= 0 && k < size ? ranks[k] : NONE;
        }

        boolean has(int rank) {
            for (int k = 0; k < size; k++) {
                if (ranks[k] == rank) {
                    return true;
                }
            }
            return false;
        }

        void append(int rank) {
            if (size < MOST_POINTS) {
                ranks[size] = rank;
                size++;
            }
        }
    }

    /** The CHAIN that was traced last, from the left to the right. */
    private static final class Chain extends Corners {
        void trace(Points points, int first, int count, int side) {
            size = 0;
            for (int rank = first; rank < first + count; rank++) {
                // Of one X the lowest comes first, and from below it hides all others.
                if (side == BELOW && isOverLast(points, rank)) {
                    continue;
                }
                while (size > 0 && !lastStays(points, rank, side)) {
                    size--;
                }
                append(rank);
            }
        }

        private boolean isOverLast(Points points, int rank) {
            return size > 0 && points.xs[ranks[size - 1]] == points.xs[rank];
        }

        private boolean lastStays(Points points, int rank, int side) {
            if (isOverLast(points, rank)) {
                return false;
            }
            if (size < 2) {
                return true;
            }
            int x = points.xs[rank];
            int y = points.ys[rank];
            long turn = points.turn(ranks[size - 2], ranks[size - 1], x, y);
            return side == ABOVE ? turn < 0 : turn > 0;
        }

        int lastBefore(int border) {
            for (int k = size - 1; k >= 0; k--) {
                if (ranks[k] < border) {
                    return ranks[k];
                }
            }
            return NONE;
        }

        int firstFrom(int border) {
            for (int k = 0; k < size; k++) {
                if (ranks[k] >= border) {
                    return ranks[k];
                }
            }
            return NONE;
        }
    }

    /** ROUND as it was gathered last; no POINT lies to the right of an edge. */
    private static final class Ring extends Corners {
        void clear() {
            size = 0;
        }

        void takeRightward(Chain chain) {
            for (int k = 0; k < chain.size; k++) {
                takeOnce(chain.ranks[k]);
            }
        }

        void takeLeftward(Chain chain) {
            for (int k = chain.size - 1; k >= 0; k--) {
                takeOnce(chain.ranks[k]);
            }
        }

        private void takeOnce(int rank) {
            if (!has(rank)) {
                append(rank);
            }
        }

        int farthest(Points points, int dx, int dy) {
            int best = NONE;
            for (int k = 0; k < size; k++) {
                if (best == NONE || isFarther(points, ranks[k], best, dx, dy)) {
                    best = ranks[k];
                }
            }
            return best;
        }

        private static boolean isFarther(Points points, int rank, int best, int dx, int dy) {
            long reach = points.reach(rank, dx, dy);
            long bestReach = points.reach(best, dx, dy);
            return reach > bestReach || (reach == bestReach && rank < best);
        }

        int locate(Points points, int x, int y) {
            if (isAtCorner(points, x, y)) {
                return AT_CORNER;
            }
            for (int k = 0; k < size; k++) {
                int from = ranks[k];
                int to = k + 1 < size ? ranks[k + 1] : ranks[0];
                long turn = points.turn(from, to, x, y);
                if (turn < 0) {
                    return OUT;
                }
                // The line of an edge meets what lies round in that edge alone.
                if (turn == 0) {
                    return points.isBoxed(from, to, x, y) ? AT_EDGE : OUT;
                }
            }
            return size == 0 ? OUT : IN;
        }

        private boolean isAtCorner(Points points, int x, int y) {
            for (int k = 0; k < size; k++) {
                if (points.isAt(ranks[k], x, y)) {
                    return true;
                }
            }
            return false;
        }

        int nearestTouching(Points points, int x, int y, int side) {
            int best = NONE;
            for (int k = 0; k < size; k++) {
                int rank = ranks[k];
                if (isTouching(points, rank, x, y, side)
                    && (best == NONE || isNearer(points, rank, best, x, y))) {
                    best = rank;
                }
            }
            return best;
        }

        private boolean isTouching(Points points, int rank, int x, int y, int side) {
            for (int k = 0; k < size; k++) {
                // From the place by this corner to another one is the same turn as from this
                // corner by the other one to the place.
                long turn = points.turn(rank, ranks[k], x, y);
                if (side == LEFT ? turn < 0 : turn > 0) {
                    return false;
                }
            }
            return true;
        }

        private static boolean isNearer(Points points, int rank, int best, int x, int y) {
            return points.squaredDistance(rank, x, y) < points.squaredDistance(best, x, y);
        }

        long doubleArea(Points points) {
            long sum = 0;
            for (int k = 1; k + 1 < size; k++) {
                int third = ranks[k + 1];
                sum += points.turn(ranks[0], ranks[k], points.xs[third], points.ys[third]);
            }
            return sum;
        }
    }
}
