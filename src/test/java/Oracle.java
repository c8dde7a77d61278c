import java.util.ArrayList;
import java.util.Arrays;
import java.util.HashMap;
import java.util.HashSet;
import java.util.List;
import java.util.Map;
import java.util.Set;

/**
 * The document said over again in the plainest way, for RandomTest to compare with: walks are
 * searched through all places and minutes, rows are tried one by one, nothing is assumed of them.
 */
final class Oracle {
    static final int NONE = -1, UNKNOWN = -1001, OUTSIDE = -1002, NOT = -1003, FULL = -1004;

    static final class Way {
        int a, b, l, d = NONE, w = 9, f = 99, c = 0;

        boolean joins(int p, int q) {
            return a == p && b == q || a == q && b == p;
        }
    }

    static final class Man {
        final int place;
        final boolean knows, slow;

        Man(int place, boolean knows, boolean slow) {
            this.place = place;
            this.knows = knows;
            this.slow = slow;
        }
    }

    static final class Lamp {
        final int place, end;

        Lamp(int place, int end) {
            this.place = place;
            this.end = end;
        }
    }

    static final class Image {
        List<Man> men;
        List<Lamp> lamps;
        Set<Integer> fallen;
    }

    private final StringBuilder text = new StringBuilder();
    private int faultAt = NONE;
    private int places = 0, shaft = NONE, lifts = 0;
    private List<Way> ways = new ArrayList<>();
    private List<Man> men = new ArrayList<>();
    private List<Lamp> lamps = new ArrayList<>();
    private Set<Integer> fallen = new HashSet<>();
    private final List<Integer> row = new ArrayList<>();
    private final Image[] images = new Image[2];
    private final Map<String, int[]> memo = new HashMap<>();

    // ---- the pit

    int feed(int n, long bytes) {
        if (n < 1 || n > 8) return OUTSIDE;
        if (text.length() + n > 400) return FULL;
        for (int i = n - 1; i >= 0; i--) text.append((char) (bytes >> 8 * i & 255));
        return text.length();
    }

    private record Token(char kind, String is, int at) { }

    private static List<Token> tokens(String s) {
        List<Token> list = new ArrayList<>();
        int i = 0;
        while (i < s.length()) {
            int from = i;
            char c = s.charAt(i);
            if (c >= 'a' && c <= 'z') {
                while (i < s.length() && s.charAt(i) >= 'a' && s.charAt(i) <= 'z') i++;
                list.add(new Token('w', s.substring(from, i), from));
            } else if (c >= '0' && c <= '9') {
                while (i < s.length() && s.charAt(i) >= '0' && s.charAt(i) <= '9') i++;
                list.add(new Token('n', s.substring(from, i), from));
            } else {
                i++;
                if (c != ' ') list.add(new Token(c == ';' ? ';' : '?', s.substring(from, i), from));
            }
        }
        list.add(new Token('e', "", s.length()));
        return list;
    }

    /** What a clause asks for behind its word: a number and its bounds, or a word that may come. */
    int pit() {
        List<Token> list = tokens(text.toString());
        text.setLength(0);
        int at = 0, newPlaces = 0, newShaft = NONE, newLifts = 0;
        List<Way> newWays = new ArrayList<>();
        boolean first = true;
        while (first || list.get(at).kind != 'e') {
            Token word = list.get(at++);
            String is = word.kind == 'w' ? word.is : "";
            if (is.equals("places") != first || !List.of("places", "out", "way").contains(is)) return blame(1, word);
            if (is.equals("out") && newShaft != NONE) return blame(3, word);
            if (is.equals("way") && newWays.size() == 24) return blame(4, word);
            int wants = is.equals("places") ? 1 : is.equals("out") ? 2 : 3;
            int[] got = new int[wants];
            for (int i = 0; i < wants; i++) {
                Token n = list.get(at++);
                int low = is.equals("places") ? 2 : is.equals("out") ? i : i < 2 ? 0 : 1;
                int high = is.equals("places") ? 12 : is.equals("out") ? (i == 0 ? newPlaces - 1 : 9) : i < 2 ? newPlaces - 1 : 30;
                int fault = badNumber(n, low, high);
                if (fault != 0) return blame(fault, n);
                got[i] = Integer.parseInt(n.is);
                if (is.equals("way") && i == 1 && got[0] == got[1]) return blame(5, n);
            }
            if (is.equals("places")) newPlaces = got[0];
            if (is.equals("out")) {
                newShaft = got[0];
                newLifts = got[1];
            }
            if (is.equals("way")) {
                Way way = new Way();
                way.a = got[0];
                way.b = got[1];
                way.l = got[2];
                String[] words = {"dark", "wide", "fills", "bad"};
                int[] low = {way.l, 1, 0, 0}, high = {60, 9, 99, 999}, value = {NONE, 9, 99, 0};
                for (int i = 0; i < 4; i++) {
                    if (list.get(at).kind == 'w' && list.get(at).is.equals(words[i])) {
                        Token n = list.get(at + 1);
                        int fault = badNumber(n, low[i], high[i]);
                        if (fault != 0) return blame(fault, n);
                        value[i] = Integer.parseInt(n.is);
                        at += 2;
                    }
                }
                way.d = value[0];
                way.w = value[1];
                way.f = value[2];
                way.c = value[3];
                newWays.add(way);
            }
            Token end = list.get(at++);
            if (end.kind != ';') return blame(1, end);
            first = false;
        }
        if (newShaft == NONE) return blame(1, list.get(at));
        faultAt = NONE;
        places = newPlaces;
        shaft = newShaft;
        lifts = newLifts;
        ways = newWays;
        men = new ArrayList<>();
        lamps = new ArrayList<>();
        fallen = new HashSet<>();
        row.clear();
        images[0] = images[1] = null;
        memo.clear();
        return ways.size();
    }

    private static int badNumber(Token n, int low, int high) {
        if (n.kind != 'n') return 1;
        if (n.is.length() > 3) return 2;
        int value = Integer.parseInt(n.is);
        return value < low || value > high ? 2 : 0;
    }

    private int blame(int fault, Token token) {
        faultAt = token.at;
        return -10 - fault;
    }

    int fault() {
        return faultAt;
    }

    int way(int k, int what) {
        if (k < 0 || k >= ways.size()) return UNKNOWN;
        if (what < 0 || what > 7) return OUTSIDE;
        Way x = ways.get(k);
        return new int[] {x.a, x.b, x.l, x.d, x.w, x.f, x.c, fallen.contains(k) ? 1 : 0}[what];
    }

    int fall(int k, boolean is) {
        if (k < 0 || k >= ways.size()) return UNKNOWN;
        memo.clear();
        boolean was = is ? !fallen.add(k) : fallen.remove(k);
        return was ? 1 : 0;
    }

    int count(int what) {
        if (what < 0 || what > 8) return OUTSIDE;
        int knowing = (int) men.stream().filter(m -> m.knows).count();
        return new int[] {places, ways.size(), men.size(), lamps.size(), row.size(), text.length(), shaft, lifts, knowing}[what];
    }

    // ---- men, lamps

    private boolean noPlace(int p) {
        return p < 0 || p >= places;
    }

    private boolean noMan(int m) {
        return m < 0 || m >= men.size();
    }

    private boolean noLamp(int l) {
        return l < 0 || l >= lamps.size();
    }

    private static boolean noMinute(int t) {
        return t < 0 || t > 99;
    }

    private static boolean noLight(int e) {
        return e < -1 || e > 99;
    }

    int man(int p, boolean knows, boolean slow) {
        if (noPlace(p)) return UNKNOWN;
        if (men.size() == 8) return FULL;
        men.add(new Man(p, knows, slow));
        return men.size() - 1;
    }

    int lamp(int p, int end) {
        if (noPlace(p)) return UNKNOWN;
        if (noMinute(end)) return OUTSIDE;
        if (lamps.size() == 4) return FULL;
        lamps.add(new Lamp(p, end));
        return lamps.size() - 1;
    }

    int told(int m, int what) {
        if (noMan(m)) return UNKNOWN;
        if (what < 0 || what > 2) return OUTSIDE;
        Man man = men.get(m);
        return what == 0 ? man.place : (what == 1 ? man.knows : man.slow) ? 1 : 0;
    }

    int light(int l, int what) {
        if (noLamp(l)) return UNKNOWN;
        if (what < 0 || what > 1) return OUTSIDE;
        return what == 0 ? lamps.get(l).place : lamps.get(l).end;
    }

    int moves(int m, int p, boolean knows) {
        if (noMan(m) || noPlace(p)) return UNKNOWN;
        Man was = men.get(m);
        men.set(m, new Man(p, knows, was.slow));
        return was.place;
    }

    // ---- walks

    /** A mark: where, and to which minute; {NONE, NONE}: there is none. */
    private static final int[] NO_MARK = {NONE, NONE};

    private int through(int k, int t, int e, boolean slow, int[] mark) {
        Way way = ways.get(k);
        if (fallen.contains(k)) return NONE;
        int times = slow ? 2 : 1;
        boolean byMark = (way.a == mark[0] || way.b == mark[0]) && t + times * way.l <= mark[1];
        boolean byLight = e != NONE && t + times * way.l <= e;
        if (!byMark && !byLight && way.d == NONE) return NONE;
        int end = t + times * (byMark || byLight ? way.l : way.d);
        return end <= way.f ? end : NONE;
    }

    /** For each place the least minute of all walks, with every place and minute looked at. */
    private int[] least(int p, int t, int e, boolean slow, int[] mark) {
        String key = p + " " + t + " " + e + " " + slow + " " + mark[0] + " " + mark[1];
        int[] known = memo.get(key);
        if (known != null) return known;
        boolean[][] seen = new boolean[places][100];
        List<int[]> queue = new ArrayList<>();
        seen[p][t] = true;
        queue.add(new int[] {p, t});
        for (int head = 0; head < queue.size(); head++) {
            int at = queue.get(head)[0], minute = queue.get(head)[1];
            for (int k = 0; k < ways.size(); k++) {
                Way way = ways.get(k);
                if (way.a != at && way.b != at) continue;
                int to = way.a + way.b - at;
                int end = through(k, minute, e, slow, mark);
                if (end != NONE && !seen[to][end]) {
                    seen[to][end] = true;
                    queue.add(new int[] {to, end});
                }
            }
        }
        int[] least = new int[places];
        for (int q = 0; q < places; q++) {
            least[q] = NONE;
            for (int m = 99; m >= 0; m--) if (seen[q][m]) least[q] = m;
        }
        memo.put(key, least);
        return least;
    }

    private int comes(int p, int q, int t, int e, boolean slow) {
        return least(p, t, e, slow, NO_MARK)[q];
    }

    int soonest(int p, int q, int t, int e, boolean slow) {
        if (noPlace(p) || noPlace(q)) return UNKNOWN;
        if (noMinute(t) || noLight(e)) return OUTSIDE;
        return comes(p, q, t, e, slow);
    }

    int last(int p, int e, boolean slow) {
        if (noPlace(p)) return UNKNOWN;
        if (noLight(e)) return OUTSIDE;
        for (int t = 99; t >= 0; t--) if (comes(p, shaft, t, e, slow) != NONE) return t;
        return NONE;
    }

    int open(int t, int e, boolean slow) {
        if (noMinute(t) || noLight(e)) return OUTSIDE;
        int set = 0;
        for (int p = 0; p < places; p++) if (comes(p, shaft, t, e, slow) != NONE) set += 1 << p;
        return set;
    }

    /** The flow as a table of what is left from node to node: {source, place and minute .., sink}. */
    private int[] flow(int until) {
        int times = until + 1, nodes = places * times + 2, source = nodes - 2, sink = nodes - 1;
        List<Map<Integer, Integer>> left = new ArrayList<>();
        for (int i = 0; i < nodes; i++) left.add(new HashMap<>());
        for (Man m : men) left.get(source).merge(m.place * times, 1, Integer::sum);
        for (int t = 0; t <= until; t++) {
            left.get(shaft * times + t).merge(sink, lifts, Integer::sum);
            for (int p = 0; p < places && t < until; p++) left.get(p * times + t).merge(p * times + t + 1, 1000, Integer::sum);
            for (int k = 0; k < ways.size(); k++) {
                Way way = ways.get(k);
                if (fallen.contains(k) || t + way.l > until || t + way.l > way.f) continue;
                left.get(way.a * times + t).merge(way.b * times + t + way.l, way.w, Integer::sum);
                left.get(way.b * times + t).merge(way.a * times + t + way.l, way.w, Integer::sum);
            }
        }
        int sum = 0;
        while (push(left, source, sink, new boolean[nodes])) sum++;
        boolean[] seen = new boolean[nodes];
        push(left, source, sink, seen);
        int set = 0;
        for (int i = 0; i < places * times; i++) if (seen[i]) set |= 1 << i / times;
        return new int[] {sum, set};
    }

    private boolean push(List<Map<Integer, Integer>> left, int at, int sink, boolean[] seen) {
        if (at == sink) return true;
        seen[at] = true;
        for (int to : new ArrayList<>(left.get(at).keySet())) {
            if (left.get(at).get(to) > 0 && !seen[to] && push(left, to, sink, seen)) {
                left.get(at).merge(to, -1, Integer::sum);
                left.get(to).merge(at, 1, Integer::sum);
                return true;
            }
        }
        return false;
    }

    int most(int t) {
        if (t < 0 || t > 60) return OUTSIDE;
        if (places == 0) return NOT;
        return flow(t)[0];
    }

    int cut(int t) {
        if (t < 0 || t > 60) return OUTSIDE;
        if (places == 0) return NOT;
        int[] got = flow(t);
        return got[0] == men.size() ? 0 : got[1];
    }

    // ---- lamps

    private int upOf(int p, int k, int without, int[] mark) {
        List<Man> line = new ArrayList<>();
        for (Man m : men) if (m.place == p && m.knows && !m.slow) line.add(m);
        for (Man m : men) if (m.place == p && m.knows && m.slow) line.add(m);
        int sum = 0;
        for (int l = 0; l < lamps.size(); l++) {
            if (l == without || lamps.get(l).place != p) continue;
            List<Man> group = new ArrayList<>();
            while (!line.isEmpty() && group.size() <= k) group.add(line.remove(0));
            boolean slow = group.stream().anyMatch(m -> m.slow);
            if (least(p, 0, lamps.get(l).end, slow, mark)[shaft] != NONE) sum += group.size();
        }
        for (Man m : line) if (least(p, 0, NONE, m.slow, mark)[shaft] != NONE) sum++;
        return sum;
    }

    private int upAll(int k, int without, int[] mark) {
        int sum = 0;
        for (int p = 0; p < places; p++) sum += upOf(p, k, without, mark);
        return sum;
    }

    int up(int k, int p) {
        if (p != NONE && noPlace(p)) return UNKNOWN;
        if (k < 0 || k > 7) return OUTSIDE;
        if (places == 0) return NOT;
        return p == NONE ? upAll(k, NONE, NO_MARK) : upOf(p, k, NONE, NO_MARK);
    }

    int lent(int l, int p) {
        if (noLamp(l) || noPlace(p)) return UNKNOWN;
        Lamp lamp = lamps.get(l);
        Man who = null;
        for (Man m : men) {
            if (m.place == lamp.place && m.knows && (who == null || who.slow && !m.slow)) who = m;
        }
        if (who == null) return NONE;
        int at = comes(lamp.place, p, 0, lamp.end, who.slow);
        if (at == NONE) return NONE;
        boolean slow = who.slow;
        for (Man m : men) slow = slow || m.place == p && m.slow;
        return comes(p, shaft, at, lamp.end, slow);
    }

    int mark(int l, int p, int k) {
        if (noLamp(l) || noPlace(p)) return UNKNOWN;
        if (k < 0 || k > 7) return OUTSIDE;
        return 100 + upAll(k, l, new int[] {p, lamps.get(l).end}) - upAll(k, NONE, NO_MARK);
    }

    // ---- telling

    private List<Integer> untold() {
        List<Integer> list = new ArrayList<>();
        for (int p = 0; p < places; p++) {
            for (Man m : men) if (m.place == p && !m.knows && !list.contains(p)) list.add(p);
        }
        return list;
    }

    private int untoldSet() {
        int set = 0;
        for (int p : untold()) set |= 1 << p;
        return set;
    }

    private boolean cannotTell(int m) {
        return !men.get(m).knows || untold().size() > 6;
    }

    /** The most by rows of just the set's places, from where the teller is now. */
    private int rows(Man teller, int e, int at, int minute, int set) {
        if (set == 0) return comes(at, shaft, minute, e, teller.slow) == NONE ? NONE : 0;
        int best = NONE;
        for (int p = 0; p < places; p++) {
            if ((set >> p & 1) == 0) continue;
            int there = comes(at, p, minute, e, teller.slow);
            if (there == NONE) continue;
            int rest = rows(teller, e, p, there, set - (1 << p));
            if (rest == NONE) continue;
            int up = 0;
            for (Man m : men) if (m.place == p && !m.knows && comes(p, shaft, there, NONE, m.slow) != NONE) up++;
            best = Math.max(best, rest + up);
        }
        return best;
    }

    private int told(int m, int e, int t, int set, Map<Integer, Integer> known) {
        Integer got = known.get(set);
        if (got == null) known.put(set, got = rows(men.get(m), e, men.get(m).place, t, set));
        return got;
    }

    int tells(int m, int e, int t, int set) {
        if (noMan(m) || (set & ~untoldSet()) != 0) return UNKNOWN;
        if (noMinute(t) || noLight(e)) return OUTSIDE;
        if (cannotTell(m)) return NOT;
        return told(m, e, t, set, new HashMap<>());
    }

    int toldBest(int m, int e, int t, int what) {
        if (noMan(m)) return UNKNOWN;
        if (noMinute(t) || noLight(e) || what < 0 || what > 1) return OUTSIDE;
        if (cannotTell(m)) return NOT;
        int best = NONE, bestSet = NONE;
        Map<Integer, Integer> known = new HashMap<>();
        for (int set = 0; set < 1 << places; set++) {
            if ((set & ~untoldSet()) != 0) continue;
            int got = told(m, e, t, set, known);
            if (got > best) {
                best = got;
                bestSet = set;
            }
        }
        return what == 0 ? bestSet : best;
    }

    int byTwo(int m, int e, int n, int other, int t, int what) {
        if (noMan(m) || noMan(n) || m == n) return UNKNOWN;
        if (noMinute(t) || noLight(e) || noLight(other) || what < 0 || what > 2) return OUTSIDE;
        if (cannotTell(m) || cannotTell(n)) return NOT;
        int all = untoldSet();
        int[] best = {NONE, NONE, NONE};
        Map<Integer, Integer> one = new HashMap<>(), two = new HashMap<>();
        for (int a = 0; a < 1 << places; a++) {
            if ((a & ~all) != 0 || told(m, e, t, a, one) == NONE) continue;
            for (int b = 0; b < 1 << places; b++) {
                if ((b & ~all) != 0 || (a & b) != 0 || told(n, other, t, b, two) == NONE) continue;
                int sum = told(m, e, t, a, one) + told(n, other, t, b, two);
                if (sum > best[2]) best = new int[] {a, b, sum};
            }
        }
        return best[what];
    }

    int tooLate(int m, int e, int p) {
        if (noMan(m) || !untold().contains(p)) return UNKNOWN;
        if (noLight(e)) return OUTSIDE;
        if (cannotTell(m)) return NOT;
        for (int t = 0; t < 100; t++) {
            if (rows(men.get(m), e, men.get(m).place, t, 1 << p) == NONE) return t;
        }
        return 100;
    }

    // ---- plans

    int go(int p) {
        if (noPlace(p)) return UNKNOWN;
        if (row.size() == 12) return FULL;
        row.add(p);
        return row.size();
    }

    int clear() {
        int had = row.size();
        row.clear();
        return had;
    }

    /** {first wrong step or NONE, minute, product}. */
    private int[] walk(List<Integer> along, int t, int e, boolean slow) {
        int minute = t;
        long product = 1000000;
        for (int s = 1; s < along.size(); s++) {
            int end = NONE, by = NONE;
            for (int k = ways.size() - 1; k >= 0; k--) {
                if (!ways.get(k).joins(along.get(s - 1), along.get(s))) continue;
                int got = through(k, minute, e, slow, NO_MARK);
                if (got != NONE && (end == NONE || got <= end)) {
                    end = got;
                    by = k;
                }
            }
            if (by == NONE) return new int[] {s, minute, 0};
            minute = end;
            product = product * opens(by, end) / 1000000;
        }
        return new int[] {NONE, minute, (int) product};
    }

    int judge(int m, int t, int e, int what) {
        if (noMan(m)) return UNKNOWN;
        if (noMinute(t) || noLight(e) || what < 0 || what > 1) return OUTSIDE;
        if (row.isEmpty() || row.get(0) != men.get(m).place) return what == 0 ? 0 : t;
        return walk(row, t, e, men.get(m).slow)[what];
    }

    // ---- chances

    int opens(int k, int t) {
        if (k < 0 || k >= ways.size()) return UNKNOWN;
        if (noMinute(t)) return OUTSIDE;
        int open = 1000000;
        while (t-- > 0) open = (int) ((long) open * (1000 - ways.get(k).c) / 1000);
        return open;
    }

    int safe(int t, int e) {
        if (noMinute(t) || noLight(e)) return OUTSIDE;
        if (row.isEmpty()) return NOT;
        int[] got = walk(row, t, e, false);
        return got[0] == NONE ? got[2] : NOT;
    }

    int safest(int p, int t, int e) {
        if (noPlace(p)) return UNKNOWN;
        if (noMinute(t) || noLight(e)) return OUTSIDE;
        List<Integer> along = new ArrayList<>(List.of(p));
        return bestOf(along, t, e);
    }

    private int bestOf(List<Integer> along, int t, int e) {
        int[] got = walk(along, t, e, false);
        if (got[0] != NONE) return 0;
        if (along.get(along.size() - 1) == shaft) return got[2];
        if (along.size() == 7) return 0;
        int best = 0;
        for (int q = 0; q < places; q++) {
            if (along.contains(q)) continue;
            along.add(q);
            best = Math.max(best, bestOf(along, t, e));
            along.remove(along.size() - 1);
        }
        return best;
    }

    int knock(int p, int r) {
        if (noPlace(p)) return UNKNOWN;
        if (r < 0 || r > 1000) return OUTSIDE;
        int[] heard = new int[places];
        Arrays.fill(heard, NONE);
        heard[p] = 1000;
        Set<Integer> edge = new HashSet<>(Set.of(p));
        while (!edge.isEmpty()) {
            Set<Integer> next = new HashSet<>();
            for (int at : edge) {
                for (int k = 0; k < ways.size(); k++) {
                    Way way = ways.get(k);
                    if (fallen.contains(k) || way.a != at && way.b != at) continue;
                    int to = way.a + way.b - at;
                    if (heard[to] == NONE) {
                        heard[to] = heard[at] * r / 1000;
                        next.add(to);
                    }
                }
            }
            edge = next;
        }
        int sum = 0;
        for (Man m : men) if (!m.knows && heard[m.place] != NONE) sum += heard[m.place];
        return sum;
    }

    // ---- images

    int keep(int i) {
        if (i < 0 || i > 1) return UNKNOWN;
        images[i] = new Image();
        images[i].men = new ArrayList<>(men);
        images[i].lamps = new ArrayList<>(lamps);
        images[i].fallen = new HashSet<>(fallen);
        return 1;
    }

    int goBack(int i) {
        if (i < 0 || i > 1) return UNKNOWN;
        if (images[i] == null) return NOT;
        men = new ArrayList<>(images[i].men);
        lamps = new ArrayList<>(images[i].lamps);
        fallen = new HashSet<>(images[i].fallen);
        memo.clear();
        return 1;
    }
}
