/** What the parts of EdgesTest share. */
abstract class EdgesPart {
    static final int NONE = -1, UNKNOWN = -1001, OUTSIDE = -1002, NOT = -1003, FULL = -1004;
    static final int MIN = Integer.MIN_VALUE, MAX = Integer.MAX_VALUE;
    static final int[] NO_MINUTES = {-1, 100, 101, MIN, MAX};
    static final int[] NO_LIGHTS = {-2, 100, 101, MIN, MAX};
    /** In a pit of four places. */
    static final int[] NO_PLACES = {-1, 4, 12, MIN, MAX};

    /** The shaft 0; 1 is 5 from it (dark 8, by minute 60), 2 is 4 from 1 (no dark), 3 is alone. */
    static final String LINE = "places 4;out 0 1;way 0 1 5 dark 8 fills 60;way 1 2 4;";

    private final Edges edges;

    EdgesPart(Edges edges) {
        this.edges = edges;
    }

    abstract void look();

    void says(String words) {
        edges.says(words);
    }

    void plain(String words) {
        edges.plain(words);
    }

    void due(String call, long got, long want) {
        edges.due(call, got, want);
    }

    /** So many men who know. */
    static void men(LastLamps x, int n, int p, boolean slow) {
        for (int i = 0; i < n; i++) x.man(p, true, slow);
    }
}
