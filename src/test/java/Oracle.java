import java.math.BigInteger;
import java.util.ArrayList;
import java.util.Arrays;
import java.util.List;
import java.util.TreeMap;

/**
 * The document's terms taken word by word, slowly and by other ways than the class: a corner is what
 * no two other points hide, a place is OUT if it would become a corner by coming in.
 */
final class Oracle {
    private static final int ABOVE = 0, BELOW = 1;
    private static final long FAR = 1000000000L;

    private TreeMap<Integer, long[]> places = new TreeMap<>();
    private final List<TreeMap<Integer, long[]>> images = new ArrayList<>(Arrays.asList(null, null));

    long answer(String call, int a, int b, int c) {
        switch (call) {
            case "add": return add(a, b);
            case "remove": return remove(a);
            case "move": return move(a, b, c);
            case "point": return point(a, b);
            case "ranked": return ranked(a);
            case "part": return part(a, b);
            case "chain": return chain(a, b, c);
            case "bridge": return bridge(a, b, c);
            case "round": return round(a);
            case "extreme": return extreme(a, b);
            case "where": return where(a, b);
            case "touch": return touch(a, b, c);
            case "area": return area();
            case "image": return image(a);
            case "restore": return restore(a);
            case "told": return told(a);
            default: throw new IllegalArgumentException(call);
        }
    }

    int size() {
        return places.size();
    }

    // ---- points

    private long add(int x, int y) {
        if (beyond(x, y)) return -2;
        if (taken(x, y)) return -5;
        if (places.size() == 32) return -4;
        int id = 0;
        while (places.containsKey(id)) id++;
        places.put(id, new long[] {x, y});
        return id;
    }

    private long remove(int id) {
        return places.remove(id) == null ? -1 : places.size();
    }

    private long move(int id, int x, int y) {
        if (!places.containsKey(id)) return -1;
        if (beyond(x, y)) return -2;
        if (taken(x, y)) return -5;
        places.put(id, new long[] {x, y});
        return 1;
    }

    private long point(int id, int what) {
        if (!places.containsKey(id)) return -1;
        if (what == 0 || what == 1) return places.get(id)[what];
        if (what == 2) return byRank().indexOf(id);
        if (what == 3 || what == 4) return top(id, what - 3);
        return -2;
    }

    private long top(int id, int side) {
        int least = 99;
        for (int part = 1; part < 64; part++) {
            if (chainOf(members(part), side).contains(id)) least = Math.min(least, depth(part));
        }
        return least;
    }

    private long ranked(int rank) {
        return at(byRank(), rank);
    }

    // ---- parts

    private long part(int part, int what) {
        List<Integer> members = members(part);
        if (members.isEmpty()) return -1;
        if (what == 0) return members.size();
        if (what == 1) return byRank().indexOf(members.get(0));
        if (what == 2 || what == 3) return chainOf(members, what - 2).size();
        if (what == 4 || what == 5) return part == 1 ? -6 : rest(part, what - 4);
        return -2;
    }

    private int rest(int part, int side) {
        List<Integer> rest = chainOf(members(part), side);
        rest.removeAll(chainOf(members(part / 2), side));
        return rest.size();
    }

    private long chain(int part, int side, int k) {
        List<Integer> members = members(part);
        if (members.isEmpty()) return -1;
        if (side != ABOVE && side != BELOW) return -2;
        return at(chainOf(members, side), k);
    }

    private long bridge(int part, int side, int end) {
        List<Integer> members = members(part);
        if (members.isEmpty()) return -1;
        if (members.size() == 1) return -5;
        if (side != ABOVE && side != BELOW || end != 0 && end != 1) return -2;
        List<Integer> corners = chainOf(members, side);
        corners.retainAll(members(2 * part + end));
        return at(corners, end == 0 ? corners.size() - 1 : 0);
    }

    // ---- what lies round

    private long round(int k) {
        return k == -1 ? ring().size() : at(ring(), k);
    }

    private long extreme(int dx, int dy) {
        if (beyond(dx, dy)) return -2;
        if (places.isEmpty() || dx == 0 && dy == 0) return -5;
        int best = -1;
        BigInteger most = null;
        List<Integer> ring = ring();
        for (int id : byRank()) {
            long[] p = places.get(id);
            BigInteger reach = times(dx, p[0]).add(times(dy, p[1]));
            if (ring.contains(id) && (most == null || reach.compareTo(most) > 0)) {
                best = id;
                most = reach;
            }
        }
        return best;
    }

    private long where(int x, int y) {
        if (beyond(x, y)) return -2;
        long[] place = {x, y};
        for (int id : ring()) {
            if (Arrays.equals(places.get(id), place)) return 1;
        }
        List<long[]> all = new ArrayList<>(places.values());
        if (!taken(x, y)) {
            all.add(place);
            if (isCorner(all, place, ABOVE) || isCorner(all, place, BELOW)) return 0;
        }
        for (long[] a : all) {
            for (long[] b : all) {
                if (strictlyBetween(a, place, b) && noneRight(a, b)) return 2;
            }
        }
        return 3;
    }

    private long touch(int x, int y, int side) {
        if (beyond(x, y) || side != 0 && side != 1) return -2;
        if (places.isEmpty()) return -5;
        if (where(x, y) != 0) return -3;
        long[] place = {x, y};
        int best = -1;
        BigInteger least = null;
        for (int id : ring()) {
            long[] c = places.get(id);
            boolean touches = side == 0 ? noneRight(place, c) : noneRight(c, place);
            BigInteger far = times(c[0] - x, c[0] - x).add(times(c[1] - y, c[1] - y));
            if (touches && (least == null || far.compareTo(least) < 0)) {
                best = id;
                least = far;
            }
        }
        return best;
    }

    private long area() {
        BigInteger sum = BigInteger.ZERO;
        List<Integer> ring = ring();
        for (int k = 0; k < ring.size(); k++) {
            long[] a = places.get(ring.get(k));
            long[] b = places.get(ring.get((k + 1) % ring.size()));
            sum = sum.add(times(a[0], b[1])).subtract(times(a[1], b[0]));
        }
        return sum.longValueExact();
    }

    private long image(int n) {
        if (n != 0 && n != 1) return -2;
        images.set(n, new TreeMap<>(places));
        return 1;
    }

    private long restore(int n) {
        if (n != 0 && n != 1) return -2;
        if (images.get(n) == null) return -3;
        places = new TreeMap<>(images.get(n));
        return 1;
    }

    private long told(int what) {
        if (what < 0 || what > 4) return -2;
        long[] told = {places.size(), 0, 0, 0, -6};
        for (int part = 1; part < 64; part++) {
            List<Integer> members = members(part);
            if (members.isEmpty()) continue;
            told[1]++;
            told[4] = Math.max(told[4], depth(part));
            for (int side = 0; side < 2; side++) {
                told[2] += chainOf(members, side).size();
                told[3] += part == 1 ? 0 : rest(part, side);
            }
        }
        return told[what];
    }

    // ---- the terms

    private static boolean beyond(long x, long y) {
        return Math.abs(x) > FAR || Math.abs(y) > FAR;
    }

    private boolean taken(long x, long y) {
        return places.values().stream().anyMatch(p -> p[0] == x && p[1] == y);
    }

    private static long at(List<Integer> ids, int k) {
        return k < 0 || k >= ids.size() ? -6 : ids.get(k);
    }

    private static BigInteger times(long a, long b) {
        return BigInteger.valueOf(a).multiply(BigInteger.valueOf(b));
    }

    private static int depth(int part) {
        return Integer.toBinaryString(part).length() - 1;
    }

    private List<Integer> byRank() {
        List<Integer> ids = new ArrayList<>(places.keySet());
        ids.sort((a, b) -> Arrays.compare(places.get(a), places.get(b)));
        return ids;
    }

    private List<Integer> members(int part) {
        if (part < 1 || part > 1000) return new ArrayList<>();
        if (part == 1) return byRank();
        List<Integer> greater = members(part / 2);
        if (greater.size() < 2) return new ArrayList<>();
        int half = greater.size() - greater.size() / 2;
        return part % 2 == 0 ? greater.subList(0, half) : greater.subList(half, greater.size());
    }

    private List<Integer> chainOf(List<Integer> members, int side) {
        List<long[]> all = new ArrayList<>();
        for (int id : members) all.add(places.get(id));
        List<Integer> corners = new ArrayList<>();
        for (int id : members) {
            if (isCorner(all, places.get(id), side)) corners.add(id);
        }
        return corners;
    }

    private static boolean isCorner(List<long[]> all, long[] p, int side) {
        int up = side == ABOVE ? 1 : -1;
        for (long[] a : all) {
            if (a[0] == p[0] && up * a[1] > up * p[1]) return false;
            if (a[0] >= p[0]) continue;
            for (long[] b : all) {
                if (b[0] > p[0] && up * turn(a, b, p) <= 0) return false;
            }
        }
        return true;
    }

    private List<Integer> ring() {
        List<Integer> ring = chainOf(byRank(), BELOW);
        List<Integer> above = chainOf(byRank(), ABOVE);
        for (int k = above.size() - 1; k >= 0; k--) {
            if (!ring.contains(above.get(k))) ring.add(above.get(k));
        }
        return ring;
    }

    private static int turn(long[] a, long[] b, long[] c) {
        return times(b[0] - a[0], c[1] - a[1]).compareTo(times(b[1] - a[1], c[0] - a[0]));
    }

    private boolean noneRight(long[] from, long[] to) {
        return places.values().stream().allMatch(p -> turn(from, to, p) >= 0);
    }

    private static boolean strictlyBetween(long[] a, long[] p, long[] b) {
        return turn(a, b, p) == 0 && Arrays.compare(a, p) * Arrays.compare(p, b) > 0;
    }
}
