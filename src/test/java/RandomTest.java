import java.util.Random;

/** Runs of random calls, answered by LastLamps and by the Oracle: the answers must be like. */
public final class RandomTest {
    private static int wrong = 0;
    private static int calls = 0;
    /** How often each kind of call had an answer that is no refusal and not NONE. */
    private static final int[] telling = new int[33];

    private final Random random;
    private final LastLamps lamps = new LastLamps();
    private final Oracle oracle = new Oracle();
    private int places = 5;

    private RandomTest(long seed) {
        random = new Random(seed);
    }

    public static void main(String[] args) {
        int runs = args.length > 0 ? Integer.parseInt(args[0]) : 400;
        long from = args.length > 1 ? Long.parseLong(args[1]) : 0;
        for (long seed = from; seed < from + runs && wrong < 20; seed++) {
            new RandomTest(seed).run(seed);
            // So many, because few of them need a man to give way to another by not waiting.
            for (int i = 0; i < 8; i++) new RandomTest(seed * 8 + i + 1000000).runTight(seed * 8 + i + 1000000);
        }
        if (args.length > 0) {
            for (int i = 0; i < telling.length; i++) System.out.print(i + ":" + telling[i] + " ");
            System.out.println();
        }
        System.out.println("RandomTest: " + calls + " calls, " + wrong + " wrong");
        if (wrong != 0) System.exit(1);
    }

    private int upTo(int n) {
        return random.nextInt(n + 1);
    }

    /** Mostly within low .. high, now and then just outside, rarely far. */
    private int some(int low, int high) {
        int kind = random.nextInt(60);
        if (kind == 0) return low - 1;
        if (kind == 1) return high + 1;
        if (kind == 2) return random.nextInt();
        return low + random.nextInt(high - low + 1);
    }

    private int place() {
        return some(0, places - 1);
    }

    private int minute() {
        return random.nextInt(3) == 0 ? some(0, 99) : some(0, 20);
    }

    private int end() {
        int kind = random.nextInt(4);
        return kind == 0 ? -1 : kind == 1 ? some(0, 99) : kind == 2 ? some(0, 25) : 60 + upTo(39);
    }

    private void due(long seed, int kind, String call, int got, int want) {
        calls++;
        if (want >= 0) telling[kind]++;
        if (got != want) {
            wrong++;
            System.out.println("seed " + seed + ": " + call + " answered " + got + ", due is " + want);
        }
    }

    private static String number(Random r, int low, int high) {
        int kind = r.nextInt(400);
        int value = low + r.nextInt(high - low + 1);
        if (kind == 0) return String.valueOf(Math.max(0, low - 1));
        if (kind == 1) return String.valueOf(high + 1);
        if (kind == 2) return "000" + value;
        if (kind == 3) return "0" + Math.min(value, 99);
        return String.valueOf(value);
    }

    private String gap() {
        int kind = random.nextInt(30);
        return kind == 0 ? "  " : " ";
    }

    private String maybe(String word, int low, int high, int oneOf) {
        return random.nextInt(oneOf) == 0 ? (random.nextInt(10) == 0 ? "" : gap()) + word + gap() + number(random, low, high) : "";
    }

    private String wayClause(int n) {
        int a = random.nextInt(n), b = random.nextInt(n - 1);
        if (b >= a && random.nextInt(200) != 0) b++;
        int most = random.nextInt(3) == 0 ? 30 : 6;
        int lit = 1 + random.nextInt(most);
        String bOf = random.nextInt(200) == 0 ? number(random, 0, n - 1) : String.valueOf(b);
        return "way" + gap() + a + gap() + bOf + gap() + lit
            + maybe("dark", lit, Math.min(60, lit + random.nextInt(12)), 2)
            + maybe("wide", 1, 3, 2)
            + maybe("fills", random.nextInt(40), 99, 3)
            + maybe("bad", 0, random.nextInt(3) == 0 ? 999 : 60, 2) + ";";
    }

    /** Short ways that take in few and fill soon, so that men must wait and others give way. */
    private String tightText() {
        int n = 3 + random.nextInt(5);
        places = n;
        StringBuilder s = new StringBuilder("places " + n + ";out 0 " + (1 + random.nextInt(4)) + ";");
        int ways = n + random.nextInt(2 * n);
        for (int k = 0; k < ways && s.length() < 370; k++) {
            int a = random.nextInt(n), b = (a + 1 + random.nextInt(n - 1)) % n;
            s.append("way ").append(a).append(' ').append(b).append(' ').append(1 + random.nextInt(2));
            s.append(maybe("wide", 1, 1 + random.nextInt(2), 1)).append(maybe("fills", 1, 5, 2)).append(';');
        }
        return s.toString();
    }

    /** As many places and ways as there can be. */
    private String fullText() {
        places = 12;
        StringBuilder s = new StringBuilder("places 12;out " + random.nextInt(12) + " 1;");
        for (int k = 0; k < 24; k++) {
            int a = random.nextInt(10), b = (a + 1 + random.nextInt(9)) % (k < 3 ? 12 : 10);
            if (a == b) b = 11;
            s.append("way " + a + " " + b + " " + (1 + random.nextInt(9)));
            s.append(s.length() + 12 * (24 - k) < 380 ? maybe("dark", 9, 20, 2) : "").append(';');
        }
        while (s.length() < 400 && random.nextInt(200) > 0) s.append(' ');
        return s.toString();
    }

    /** Tight pits, asked for the most and the cut alone. */
    private void runTight(long seed) {
        feedText(seed, tightText());
        due(seed, 1, "pit", lamps.pit(), oracle.pit());
        for (int i = 0; i < 8; i++) {
            int p = random.nextInt(places);
            due(seed, 6, "man", lamps.man(p, true, false), oracle.man(p, true, false));
        }
        for (int t = 0; t < 10; t++) {
            due(seed, 14, "tight most " + t, lamps.most(t), oracle.most(t));
            due(seed, 15, "tight cut " + t, lamps.cut(t), oracle.cut(t));
            if (random.nextBoolean()) call(seed, 4);
        }
    }

    private String pitText() {
        if (random.nextInt(8) == 0) return fullText();
        int n = random.nextInt(4) == 0 ? 2 + random.nextInt(11) : 3 + random.nextInt(6);
        places = n;
        StringBuilder s = new StringBuilder("places" + gap() + number(random, n, n) + ";");
        String out = "out" + gap() + random.nextInt(n) + gap() + number(random, 1, random.nextBoolean() ? 2 : 9) + ";";
        boolean early = random.nextBoolean();
        if (early) s.append(out);
        int ways = random.nextInt(10) == 0 ? random.nextInt(27) : n - 1 + random.nextInt(n + 2);
        for (int k = 0; k < ways && s.length() < 370; k++) s.append(wayClause(n));
        if (!early) s.append(out);
        if (random.nextInt(12) == 0) spoil(s);
        return s.toString();
    }

    private void spoil(StringBuilder s) {
        int at = random.nextInt(s.length());
        String[] odd = {"x", ";", " ", "7", "out 0 1;", "places 3;", "way", "dark 3", "\u00e9", "A", "-"};
        switch (random.nextInt(4)) {
            case 0:
                s.deleteCharAt(at);
                break;
            case 1:
                s.setLength(at);
                break;
            default:
                s.insert(at, odd[random.nextInt(odd.length)]);
        }
    }

    private void feedText(long seed, String s) {
        for (int i = 0; i < s.length();) {
            int n = Math.min(1 + random.nextInt(8), s.length() - i);
            if (random.nextInt(3) > 0) n = Math.min(8, s.length() - i);
            long bytes = random.nextLong();
            for (int j = 0; j < n; j++) bytes = bytes << 8 | s.charAt(i + j);
            due(seed, 0, "feed", lamps.feed(n, bytes), oracle.feed(n, bytes));
            i += n;
        }
    }

    private void tellPit(long seed) {
        feedText(seed, pitText());
        due(seed, 1, "pit", lamps.pit(), oracle.pit());
        due(seed, 2, "fault", lamps.fault(), oracle.fault());
    }

    private void run(long seed) {
        if (random.nextInt(5) == 0) for (int i = 0; i < 10; i++) call(seed, random.nextInt(33));
        tellPit(seed);
        if (oracle.count(0) > 0) places = oracle.count(0);
        int men = random.nextInt(9);
        boolean fewKnow = random.nextBoolean();
        for (int i = 0; i < men; i++) {
            int p = place();
            boolean knows = random.nextInt(fewKnow ? 5 : 2) == 0, slow = random.nextInt(4) == 0;
            due(seed, 6, "man", lamps.man(p, knows, slow), oracle.man(p, knows, slow));
        }
        for (int i = random.nextInt(5); i > 0; i--) call(seed, 7);
        if (random.nextInt(3) > 0) route(seed);
        for (int i = 0; i < 250; i++) {
            int kind = random.nextInt(33);
            if (kind <= 2 && random.nextInt(10) > 0) continue;
            if (kind == 6 && random.nextInt(3) > 0) continue;
            call(seed, kind);
        }
    }

    /** A row along ways that there are, so that plans go on for a while. */
    private void route(long seed) {
        if (oracle.count(1) < 1) return;
        due(seed, 22, "clear", lamps.clear(), oracle.clear());
        int at = random.nextInt(Math.max(1, oracle.count(0)));
        if (oracle.count(2) > 0 && random.nextInt(4) > 0) at = oracle.told(random.nextInt(oracle.count(2)), 0);
        due(seed, 21, "go", lamps.go(at), oracle.go(at));
        for (int i = random.nextInt(6); i > 0; i--) {
            for (int tries = 0; tries < 30; tries++) {
                int k = random.nextInt(oracle.count(1));
                if (oracle.way(k, 0) != at && oracle.way(k, 1) != at) continue;
                at = oracle.way(k, 0) + oracle.way(k, 1) - at;
                due(seed, 21, "go", lamps.go(at), oracle.go(at));
                break;
            }
        }
    }

    private int untold() {
        int set = 0;
        for (int m = 0; m < oracle.count(2); m++) if (oracle.told(m, 1) == 0) set |= 1 << oracle.told(m, 0);
        return set;
    }

    /** Mostly a man who knows, if there is one. */
    private int teller(int m) {
        if (random.nextInt(10) == 0) return m;
        for (int tries = 0; tries < 20 && oracle.count(2) > 0; tries++) {
            int n = random.nextInt(oracle.count(2));
            if (oracle.told(n, 1) == 1) return n;
        }
        return m;
    }

    private void call(long seed, int kind) {
        boolean is = random.nextBoolean(), slow = random.nextInt(3) == 0;
        int p = place(), q = place(), t = minute(), e = end(), e2 = end();
        int m = some(0, Math.max(1, oracle.count(2) - 1)), n = some(0, Math.max(1, oracle.count(2) - 1));
        int k = some(0, Math.max(1, oracle.count(1) - 1)), l = some(0, Math.max(0, oracle.count(3) - 1));
        int what, set;
        switch (kind) {
            case 0 -> {
                what = some(1, 8);
                long bytes = random.nextLong();
                due(seed, kind, "feed", lamps.feed(what, bytes), oracle.feed(what, bytes));
            }
            case 1 -> {
                if (is) tellPit(seed);
                else due(seed, kind, "pit", lamps.pit(), oracle.pit());
                if (oracle.count(0) > 0) places = oracle.count(0);
            }
            case 2 -> due(seed, kind, "fault", lamps.fault(), oracle.fault());
            case 3 -> {
                what = some(0, 7);
                due(seed, kind, "way", lamps.way(k, what), oracle.way(k, what));
            }
            case 4 -> {
                is = random.nextInt(3) == 0;
                due(seed, kind, "fall", lamps.fall(k, is), oracle.fall(k, is));
            }
            case 5 -> {
                what = some(0, 8);
                due(seed, kind, "count", lamps.count(what), oracle.count(what));
            }
            case 6 -> due(seed, kind, "man", lamps.man(p, is, slow), oracle.man(p, is, slow));
            case 7 -> {
                int end = random.nextInt(3) == 0 ? some(0, 99) : some(0, 25);
                due(seed, kind, "lamp", lamps.lamp(p, end), oracle.lamp(p, end));
            }
            case 8 -> {
                what = some(0, 2);
                due(seed, kind, "told", lamps.told(m, what), oracle.told(m, what));
            }
            case 9 -> {
                what = some(0, 1);
                due(seed, kind, "light", lamps.light(l, what), oracle.light(l, what));
            }
            case 10 -> {
                is = random.nextInt(3) > 0;
                due(seed, kind, "moves", lamps.moves(m, p, is), oracle.moves(m, p, is));
            }
            case 11 -> due(seed, kind, "soonest " + p + " " + q + " " + t + " " + e + " " + slow, lamps.soonest(p, q, t, e, slow), oracle.soonest(p, q, t, e, slow));
            case 12 -> due(seed, kind, "last", lamps.last(p, e, slow), oracle.last(p, e, slow));
            case 13 -> due(seed, kind, "open", lamps.open(t, e, slow), oracle.open(t, e, slow));
            case 14 -> {
                t = some(0, is ? 60 : 20);
                due(seed, kind, "most " + t, lamps.most(t), oracle.most(t));
            }
            case 15 -> {
                t = some(0, is ? 60 : 20);
                due(seed, kind, "cut " + t, lamps.cut(t), oracle.cut(t));
            }
            case 16 -> {
                what = is ? some(0, 7) : some(0, 2);
                int of = slow ? -1 : p;
                due(seed, kind, "up", lamps.up(what, of), oracle.up(what, of));
            }
            case 17 -> due(seed, kind, "lent", lamps.lent(l, p), oracle.lent(l, p));
            case 18 -> {
                what = is ? some(0, 7) : some(0, 2);
                due(seed, kind, "mark", lamps.mark(l, p, what), oracle.mark(l, p, what));
            }
            case 19 -> {
                m = teller(m);
                set = random.nextInt() & untold();
                if (random.nextInt(20) == 0) set = random.nextInt(1 << 13);
                due(seed, kind, "tells", lamps.tells(m, e, t, set), oracle.tells(m, e, t, set));
            }
            case 20 -> {
                m = teller(m);
                what = some(0, 1);
                due(seed, kind, "toldBest", lamps.toldBest(m, e, t, what), oracle.toldBest(m, e, t, what));
            }
            case 21 -> due(seed, kind, "go", lamps.go(p), oracle.go(p));
            case 22 -> {
                if (random.nextInt(3) == 0) route(seed);
                else if (random.nextInt(4) == 0) due(seed, kind, "clear", lamps.clear(), oracle.clear());
            }
            case 23 -> {
                what = some(0, 1);
                due(seed, kind, "judge", lamps.judge(m, t, e, what), oracle.judge(m, t, e, what));
            }
            case 24 -> due(seed, kind, "opens", lamps.opens(k, t), oracle.opens(k, t));
            case 25 -> due(seed, kind, "safe", lamps.safe(t, e), oracle.safe(t, e));
            case 26 -> {
                int r = some(0, 1000);
                due(seed, kind, "knock", lamps.knock(p, r), oracle.knock(p, r));
            }
            case 27 -> {
                m = teller(m);
                due(seed, kind, "tooLate", lamps.tooLate(m, e, p), oracle.tooLate(m, e, p));
            }
            case 28 -> {
                what = some(0, 1);
                due(seed, kind, "keep", lamps.keep(what), oracle.keep(what));
            }
            case 29 -> {
                what = some(0, 1);
                due(seed, kind, "goBack", lamps.goBack(what), oracle.goBack(what));
            }
            case 30 -> due(seed, kind, "safest " + p + " " + t + " " + e, lamps.safest(p, t, e), oracle.safest(p, t, e));
            default -> {
                m = teller(m);
                n = teller(n);
                what = some(0, 2);
                due(seed, kind, "byTwo", lamps.byTwo(m, e, n, e2, t, what), oracle.byTwo(m, e, n, e2, t, what));
            }
        }
    }
}
