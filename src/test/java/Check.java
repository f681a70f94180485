/** What the tests share; counts and prints the answers that are not as due. */
final class Check {
    private int wrong = 0;
    private String about = "";

    /** A new object with POINTS, told by X and Y in turn. */
    static LiveHull with(int... xy) {
        LiveHull hull = new LiveHull();
        for (int k = 0; k + 1 < xy.length; k += 2) {
            hull.add(xy[k], xy[k + 1]);
        }
        return hull;
    }

    void about(String text) {
        about = text;
    }

    void due(String call, long got, long want) {
        if (got != want) {
            wrong++;
            System.out.println(about + ": " + call + " answered " + got + ", due is " + want);
        }
    }

    void row(String call, long[] got, long... want) {
        due(call + " how many", got.length, want.length);
        for (int k = 0; k < Math.min(got.length, want.length); k++) {
            due(call + " [" + k + "]", got[k], want[k]);
        }
    }

    boolean failed() {
        return wrong != 0;
    }

    void end() {
        if (wrong != 0) {
            System.out.println(wrong + " answers are not as due");
            System.exit(1);
        }
    }
}
