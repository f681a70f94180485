/** Calls by their names; numbers that a call does not take are left aside. */
final class Calls {
    private Calls() { }

    static long ask(LiveHull hull, String call, int a, int b, int c) {
        switch (call) {
            case "add": return hull.add(a, b);
            case "remove": return hull.remove(a);
            case "move": return hull.move(a, b, c);
            case "point": return hull.point(a, b);
            case "ranked": return hull.ranked(a);
            case "part": return hull.part(a, b);
            case "chain": return hull.chain(a, b, c);
            case "bridge": return hull.bridge(a, b, c);
            case "round": return hull.round(a);
            case "extreme": return hull.extreme(a, b);
            case "where": return hull.where(a, b);
            case "touch": return hull.touch(a, b, c);
            case "area": return hull.area();
            case "image": return hull.image(a);
            case "restore": return hull.restore(a);
            case "told": return hull.told(a);
            default: throw new IllegalArgumentException(call);
        }
    }
}
