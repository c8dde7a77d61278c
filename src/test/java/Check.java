/** Counts what is not as due, and tells the pit to an object. */
final class Check {
    private final String test;
    private int wrong = 0;
    private int looked = 0;

    Check(String test) {
        this.test = test;
    }

    void due(String call, long got, long want) {
        looked++;
        if (got != want) {
            wrong++;
            System.out.println(test + ": " + call + " is " + got + ", due is " + want);
        }
    }

    void holds(String what, boolean is) {
        due(what, is ? 1 : 0, 1);
    }

    void end() {
        System.out.println(test + ": " + looked + " looked at, " + wrong + " wrong");
        if (wrong != 0) System.exit(1);
    }

    /** Feeds a text, eight bytes at a time. */
    static void feed(LastLamps x, String text) {
        for (int i = 0; i < text.length(); i += 8) {
            int n = Math.min(8, text.length() - i);
            long bytes = 0;
            for (int j = 0; j < n; j++) bytes = bytes << 8 | text.charAt(i + j);
            x.feed(n, bytes);
        }
    }

    static LastLamps pit(String text) {
        LastLamps x = new LastLamps();
        feed(x, text);
        x.pit();
        return x;
    }
}
