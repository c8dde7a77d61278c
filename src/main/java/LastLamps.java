import java.util.Arrays;

/** A pit of places and ways told in a text, its men and lamps, and who comes up by when. */
public final class LastLamps {
    public static final int NONE = -1, UNKNOWN = -1001, OUTSIDE = -1002, NOT = -1003, FULL = -1004;

    private static final int TEXT_MOST = 400;
    private static final int PLACES_LEAST = 2;
    private static final int PLACES_MOST = 12;
    private static final int WAYS_MOST = 24;
    private static final int MEN_MOST = 8;
    private static final int LAMPS_MOST = 4;
    private static final int ROW_MOST = 12;
    private static final int IMAGES = 2;
    private static final int LAST_MINUTE = 99;
    private static final int MINUTES = LAST_MINUTE + 1;
    private static final int LIFT_LAST = 60;
    private static final int MORE_MOST = 7;
    private static final int THOUSAND = 1000;
    private static final int MILLION = 1000000;
    /** A TELLER is asked about so many PLACES at most. */
    private static final int STOPS_MOST = 6;
    private static final int STOP_SETS = 1 << STOPS_MOST;
    /** The rows of SAFEST have so many PLACES at most. */
    private static final int SAFEST_MOST = 7;

    // What is told of a WAY, by the numbers that way() has for it.
    private static final int WAY_A = 0;
    private static final int WAY_B = 1;
    private static final int WAY_LIT = 2;
    private static final int WAY_DARK = 3;
    private static final int WAY_WIDE = 4;
    private static final int WAY_FILLS = 5;
    private static final int WAY_BAD = 6;
    private static final int WAY_FALLEN = 7;
    private static final int WAY_FACTS = 7;

    private static final int WIDE_UNTOLD = 9;
    private static final int FILLS_UNTOLD = LAST_MINUTE;
    private static final int BAD_UNTOLD = 0;

    private static final int FAULT_STANDS = 1;
    private static final int FAULT_NUMBER = 2;
    private static final int FAULT_OUT_AGAIN = 3;
    private static final int FAULT_WAYS = 4;
    private static final int FAULT_SAME = 5;

    private final Text text;
    private final Reader reader;
    private final Pit pit;
    private final Crew crew;
    private final Crew[] images;
    private final boolean[] kept;
    private final Row row;
    private final Walks walks;
    private final Lifting lifting;
    private final Leaving leaving;
    private final Telling telling;
    private final Plans plans;
    private int faultAt;

    public LastLamps() {
        text = new Text();
        reader = new Reader(text);
        pit = new Pit();
        crew = new Crew();
        images = new Crew[IMAGES];
        for (int i = 0; i < IMAGES; i++) {
            images[i] = new Crew();
        }
        kept = new boolean[IMAGES];
        row = new Row();
        walks = new Walks(pit, crew);
        lifting = new Lifting(pit, crew);
        leaving = new Leaving(pit, crew, walks);
        telling = new Telling(pit, crew, walks);
        plans = new Plans(pit, row, walks);
        faultAt = NONE;
    }

    // ---- the pit

    public int feed(int n, long bytes) {
        if (!within(n, 1, 8)) {
            return OUTSIDE;
        }
        if (text.size + n > TEXT_MOST) {
            return FULL;
        }
        text.append(n, bytes);
        return text.size;
    }

    public int pit() {
        int fault = reader.read();
        text.size = 0;
        faultAt = reader.faultAt;
        if (fault != 0) {
            return -10 - fault;
        }
        pit.become(reader.found);
        crew.vanish();
        row.size = 0;
        for (int i = 0; i < IMAGES; i++) {
            kept[i] = false;
        }
        return pit.ways;
    }

    public int fault() {
        return faultAt;
    }

    public int way(int k, int what) {
        if (!isWay(k)) {
            return UNKNOWN;
        }
        if (!within(what, 0, WAY_FALLEN)) {
            return OUTSIDE;
        }
        if (what == WAY_FALLEN) {
            return bit(crew.fallen[k]);
        }
        return pit.fact(k, what);
    }

    public int fall(int k, boolean is) {
        if (!isWay(k)) {
            return UNKNOWN;
        }
        int was = bit(crew.fallen[k]);
        crew.fallen[k] = is;
        return was;
    }

    public int count(int what) {
        switch (what) {
            case 0:
                return pit.places;
            case 1:
                return pit.ways;
            case 2:
                return crew.men;
            case 3:
                return crew.lamps;
            case 4:
                return row.size;
            case 5:
                return text.size;
            case 6:
                return pit.shaft;
            case 7:
                return pit.lifts;
            case 8:
                return crew.knowing();
            default:
                return OUTSIDE;
        }
    }

    // ---- men, lamps

    public int man(int p, boolean knows, boolean slow) {
        if (!isPlace(p)) {
            return UNKNOWN;
        }
        if (crew.men >= MEN_MOST) {
            return FULL;
        }
        return crew.addMan(p, knows, slow);
    }

    public int lamp(int p, int end) {
        if (!isPlace(p)) {
            return UNKNOWN;
        }
        if (!isMinute(end)) {
            return OUTSIDE;
        }
        if (crew.lamps >= LAMPS_MOST) {
            return FULL;
        }
        return crew.addLamp(p, end);
    }

    public int told(int m, int what) {
        if (!isMan(m)) {
            return UNKNOWN;
        }
        switch (what) {
            case 0:
                return crew.manAt[m];
            case 1:
                return bit(crew.knows[m]);
            case 2:
                return bit(crew.slow[m]);
            default:
                return OUTSIDE;
        }
    }

    public int light(int l, int what) {
        if (!isLamp(l)) {
            return UNKNOWN;
        }
        switch (what) {
            case 0:
                return crew.lampAt[l];
            case 1:
                return crew.lampEnd[l];
            default:
                return OUTSIDE;
        }
    }

    public int moves(int m, int p, boolean knows) {
        if (!isMan(m) || !isPlace(p)) {
            return UNKNOWN;
        }
        int was = crew.manAt[m];
        crew.manAt[m] = p;
        crew.knows[m] = knows;
        return was;
    }

    // ---- walks

    public int soonest(int p, int q, int t, int end, boolean slow) {
        if (!isPlace(p) || !isPlace(q)) {
            return UNKNOWN;
        }
        if (!isMinute(t) || !isLight(end)) {
            return OUTSIDE;
        }
        walks.prepare(end, slow);
        walks.spread(p, t);
        return walks.when[q];
    }

    public int last(int p, int end, boolean slow) {
        if (!isPlace(p)) {
            return UNKNOWN;
        }
        if (!isLight(end)) {
            return OUTSIDE;
        }
        walks.prepare(end, slow);
        walks.gather(pit.shaft, LAST_MINUTE);
        return walks.leave[p];
    }

    public int open(int t, int end, boolean slow) {
        if (!isMinute(t) || !isLight(end)) {
            return OUTSIDE;
        }
        walks.prepare(end, slow);
        walks.gather(pit.shaft, LAST_MINUTE);
        int set = 0;
        for (int p = 0; p < pit.places; p++) {
            if (walks.leave[p] >= t) {
                set |= 1 << p;
            }
        }
        return set;
    }

    public int most(int t) {
        if (!within(t, 0, LIFT_LAST)) {
            return OUTSIDE;
        }
        if (noPit()) {
            return NOT;
        }
        return lifting.lift(t);
    }

    public int cut(int t) {
        if (!within(t, 0, LIFT_LAST)) {
            return OUTSIDE;
        }
        if (noPit()) {
            return NOT;
        }
        int lifted = lifting.lift(t);
        return lifted == crew.men ? 0 : lifting.seenPlaces();
    }

    // ---- lamps

    public int up(int k, int p) {
        if (p != NONE && !isPlace(p)) {
            return UNKNOWN;
        }
        if (!within(k, 0, MORE_MOST)) {
            return OUTSIDE;
        }
        if (noPit()) {
            return NOT;
        }
        leaving.noMark();
        return p == NONE ? leaving.upFromAll(k) : leaving.upFrom(p, k);
    }

    public int lent(int l, int p) {
        if (!isLamp(l) || !isPlace(p)) {
            return UNKNOWN;
        }
        return leaving.lend(l, p);
    }

    public int mark(int l, int p, int k) {
        if (!isLamp(l) || !isPlace(p)) {
            return UNKNOWN;
        }
        if (!within(k, 0, MORE_MOST)) {
            return OUTSIDE;
        }
        leaving.noMark();
        int before = leaving.upFromAll(k);
        leaving.leaveMark(l, p);
        return 100 + leaving.upFromAll(k) - before;
    }

    // ---- telling

    public int tells(int m, int end, int t, int set) {
        if (!isMan(m) || (set & ~crew.untoldPlaces()) != 0) {
            return UNKNOWN;
        }
        if (!isMinute(t) || !isLight(end)) {
            return OUTSIDE;
        }
        if (!canTell(m)) {
            return NOT;
        }
        telling.findStops();
        int stops = telling.stopsOf(set);
        telling.weigh(telling.first, m, end, t, stops);
        return telling.first[stops];
    }

    public int toldBest(int m, int end, int t, int what) {
        if (!isMan(m)) {
            return UNKNOWN;
        }
        if (!isMinute(t) || !isLight(end) || !within(what, 0, 1)) {
            return OUTSIDE;
        }
        if (!canTell(m)) {
            return NOT;
        }
        telling.findStops();
        telling.weigh(telling.first, m, end, t, telling.allStops());
        int best = telling.bestOfOne();
        if (best == NONE) {
            return NONE;
        }
        return what == 0 ? telling.placesOf(best) : telling.first[best];
    }

    public int byTwo(int m, int end, int n, int other, int t, int what) {
        if (!isMan(m) || !isMan(n) || m == n) {
            return UNKNOWN;
        }
        if (!isMinute(t) || !isLight(end) || !isLight(other) || !within(what, 0, 2)) {
            return OUTSIDE;
        }
        if (!canTell(m) || !canTell(n)) {
            return NOT;
        }
        telling.findStops();
        telling.weigh(telling.first, m, end, t, telling.allStops());
        telling.weigh(telling.second, n, other, t, telling.allStops());
        return telling.bestOfTwo(what);
    }

    public int tooLate(int m, int end, int p) {
        if (!isMan(m) || !isPlace(p) || (crew.untoldPlaces() >> p & 1) == 0) {
            return UNKNOWN;
        }
        if (!isLight(end)) {
            return OUTSIDE;
        }
        if (!canTell(m)) {
            return NOT;
        }
        return telling.lateFor(m, end, p);
    }

    // ---- plans

    public int go(int p) {
        if (!isPlace(p)) {
            return UNKNOWN;
        }
        if (row.size >= ROW_MOST) {
            return FULL;
        }
        row.append(p);
        return row.size;
    }

    public int clear() {
        int had = row.size;
        row.size = 0;
        return had;
    }

    public int judge(int m, int t, int end, int what) {
        if (!isMan(m)) {
            return UNKNOWN;
        }
        if (!isMinute(t) || !isLight(end) || !within(what, 0, 1)) {
            return OUTSIDE;
        }
        if (row.size == 0 || row.places[0] != crew.manAt[m]) {
            return what == 0 ? 0 : t;
        }
        walks.prepare(end, crew.slow[m]);
        plans.follow(t);
        return what == 0 ? plans.wrong : plans.minute;
    }

    // ---- chances

    public int opens(int k, int t) {
        if (!isWay(k)) {
            return UNKNOWN;
        }
        if (!isMinute(t)) {
            return OUTSIDE;
        }
        return pit.notBad(k, t);
    }

    public int safe(int t, int end) {
        if (!isMinute(t) || !isLight(end)) {
            return OUTSIDE;
        }
        if (row.size == 0) {
            return NOT;
        }
        walks.prepare(end, false);
        plans.follow(t);
        return plans.wrong == NONE ? plans.chance : NOT;
    }

    public int safest(int p, int t, int end) {
        if (!isPlace(p)) {
            return UNKNOWN;
        }
        if (!isMinute(t) || !isLight(end)) {
            return OUTSIDE;
        }
        walks.prepare(end, false);
        return plans.bestChance(p, t);
    }

    public int knock(int p, int r) {
        if (!isPlace(p)) {
            return UNKNOWN;
        }
        if (!within(r, 0, THOUSAND)) {
            return OUTSIDE;
        }
        walks.countWaysFrom(p);
        return hearing(r);
    }

    // ---- images

    public int keep(int i) {
        if (!within(i, 0, IMAGES - 1)) {
            return UNKNOWN;
        }
        images[i].become(crew);
        kept[i] = true;
        return 1;
    }

    public int goBack(int i) {
        if (!within(i, 0, IMAGES - 1)) {
            return UNKNOWN;
        }
        if (!kept[i]) {
            return NOT;
        }
        crew.become(images[i]);
        return 1;
    }

    // ---- what the calls share

    private static boolean within(int value, int low, int high) {
        return value >= low && value <= high;
    }

    private static int bit(boolean is) {
        return is ? 1 : 0;
    }

    private static boolean isMinute(int t) {
        return within(t, 0, LAST_MINUTE);
    }

    private static boolean isLight(int end) {
        return within(end, NONE, LAST_MINUTE);
    }

    private boolean noPit() {
        return pit.shaft == NONE;
    }

    private boolean isPlace(int p) {
        return within(p, 0, pit.places - 1);
    }

    private boolean isWay(int k) {
        return within(k, 0, pit.ways - 1);
    }

    private boolean isMan(int m) {
        return within(m, 0, crew.men - 1);
    }

    private boolean isLamp(int l) {
        return within(l, 0, crew.lamps - 1);
    }

    private boolean canTell(int m) {
        return crew.knows[m] && Integer.bitCount(crew.untoldPlaces()) <= STOPS_MOST;
    }

    /** Thousandths of the men who do not know, by how many ways they are away from the knocking. */
    private int hearing(int r) {
        int sum = 0;
        for (int m = 0; m < crew.men; m++) {
            int away = walks.when[crew.manAt[m]];
            if (crew.knows[m] || away == NONE) {
                continue;
            }
            int heard = THOUSAND;
            for (int step = 0; step < away; step++) {
                heard = heard * r / THOUSAND;
            }
            sum += heard;
        }
        return sum;
    }

    /** The bytes that have been fed since the latest pit(). */
    private static final class Text {
        private final byte[] bytes = new byte[TEXT_MOST];
        private int size;

        private void append(int n, long from) {
            for (int i = n - 1; i >= 0 && size < TEXT_MOST; i--) {
                bytes[size] = (byte) (from >> (8 * i));
                size++;
            }
        }
    }

    /** Places, the shaft and the ways. */
    private static final class Pit {
        private int places;
        private int ways;
        private int shaft = NONE;
        private int lifts;
        private final int[] facts = new int[WAYS_MOST * WAY_FACTS];

        private void vanish() {
            places = 0;
            ways = 0;
            shaft = NONE;
            lifts = 0;
        }

        private void become(Pit other) {
            places = other.places;
            ways = other.ways;
            shaft = other.shaft;
            lifts = other.lifts;
            System.arraycopy(other.facts, 0, facts, 0, facts.length);
        }

        private int fact(int k, int what) {
            return facts[k * WAY_FACTS + what];
        }

        private void put(int k, int what, int value) {
            facts[k * WAY_FACTS + what] = value;
        }

        private boolean touches(int k, int p) {
            return fact(k, WAY_A) == p || fact(k, WAY_B) == p;
        }

        /** The other end of a way that touches p. */
        private int beyond(int k, int p) {
            return fact(k, WAY_A) == p ? fact(k, WAY_B) : fact(k, WAY_A);
        }

        /** Of a million, that the way is not bad at the minute. */
        private int notBad(int k, int minute) {
            int good = THOUSAND - fact(k, WAY_BAD);
            int chance = MILLION;
            for (int t = 0; t < minute; t++) {
                chance = chance * good / THOUSAND;
            }
            return chance;
        }
    }

    /** Reads a text clause by clause; of its faults the first one met is the first in the text. */
    private static final class Reader {
        private final Text text;
        /** Apart from the pit in use, which stays as it is if the text has a fault. */
        private final Pit found = new Pit();
        private int at;
        private int numberAt;
        private int fault;
        private int faultAt = NONE;

        private Reader(Text text) {
            this.text = text;
        }

        /** The number of the fault; 0: there is none. */
        private int read() {
            at = 0;
            fault = 0;
            faultAt = NONE;
            found.vanish();
            readPlaces();
            for (int clause = 0; clause < TEXT_MOST && fault == 0 && !atEnd(); clause++) {
                readClause();
            }
            if (found.shaft == NONE) {
                blame(FAULT_STANDS, at);
            }
            return fault;
        }

        private void readPlaces() {
            if (takeWord("places")) {
                found.places = number(PLACES_LEAST, PLACES_MOST);
                takeClauseEnd();
            } else {
                blame(FAULT_STANDS, at);
            }
        }

        private void readClause() {
            int start = at;
            if (takeWord("out")) {
                readOut(start);
            } else if (takeWord("way")) {
                readWay(start);
            } else {
                blame(FAULT_STANDS, start);
            }
        }

        private void readOut(int start) {
            if (found.shaft != NONE) {
                blame(FAULT_OUT_AGAIN, start);
                return;
            }
            found.shaft = number(0, found.places - 1);
            found.lifts = number(1, 9);
            takeClauseEnd();
        }

        private void readWay(int start) {
            int k = found.ways;
            if (k >= WAYS_MOST) {
                blame(FAULT_WAYS, start);
                return;
            }
            int a = number(0, found.places - 1);
            int b = number(0, found.places - 1);
            if (a == b) {
                blame(FAULT_SAME, numberAt);
            }
            int lit = number(1, 30);
            found.put(k, WAY_A, a);
            found.put(k, WAY_B, b);
            found.put(k, WAY_LIT, lit);
            found.put(k, WAY_DARK, takeWord("dark") ? number(lit, 60) : NONE);
            found.put(k, WAY_WIDE, takeWord("wide") ? number(1, 9) : WIDE_UNTOLD);
            found.put(k, WAY_FILLS, takeWord("fills") ? number(0, 99) : FILLS_UNTOLD);
            found.put(k, WAY_BAD, takeWord("bad") ? number(0, 999) : BAD_UNTOLD);
            takeClauseEnd();
            found.ways = k + 1;
        }

        /** Only the first fault counts; what is read behind it is not used. */
        private void blame(int kind, int place) {
            if (fault == 0) {
                fault = kind;
                faultAt = place;
            }
        }

        private boolean isLetter(int place) {
            return place < text.size && text.bytes[place] >= 'a' && text.bytes[place] <= 'z';
        }

        private boolean isFigure(int place) {
            return place < text.size && text.bytes[place] >= '0' && text.bytes[place] <= '9';
        }

        /** Goes behind the blanks: whether the text ends there. */
        private boolean atEnd() {
            while (at < text.size && text.bytes[at] == ' ') {
                at++;
            }
            return at >= text.size;
        }

        /** Goes behind the word, if just this one comes next. */
        private boolean takeWord(String word) {
            int length = word.length();
            if (atEnd() || at + length > text.size || isLetter(at + length)) {
                return false;
            }
            for (int i = 0; i < length; i++) {
                if (text.bytes[at + i] != word.charAt(i)) {
                    return false;
                }
            }
            at += length;
            return true;
        }

        private int number(int low, int high) {
            atEnd();
            numberAt = at;
            int value = 0;
            while (at < text.size && isFigure(at)) {
                // A number of four figures is a fault, whatever its value.
                if (at - numberAt < 3) {
                    value = value * 10 + text.bytes[at] - '0';
                }
                at++;
            }
            int figures = at - numberAt;
            if (figures == 0) {
                blame(FAULT_STANDS, numberAt);
            } else if (figures > 3 || !within(value, low, high)) {
                blame(FAULT_NUMBER, numberAt);
            }
            return value;
        }

        private void takeClauseEnd() {
            if (!atEnd() && text.bytes[at] == ';') {
                at++;
            } else {
                blame(FAULT_STANDS, at);
            }
        }
    }

    /** What images keep: men, lamps, and which ways have fallen. */
    private static final class Crew {
        private int men;
        private int lamps;
        private final int[] manAt = new int[MEN_MOST];
        private final boolean[] knows = new boolean[MEN_MOST];
        private final boolean[] slow = new boolean[MEN_MOST];
        private final int[] lampAt = new int[LAMPS_MOST];
        private final int[] lampEnd = new int[LAMPS_MOST];
        private final boolean[] fallen = new boolean[WAYS_MOST];

        private void vanish() {
            men = 0;
            lamps = 0;
            for (int k = 0; k < WAYS_MOST; k++) {
                fallen[k] = false;
            }
        }

        private void become(Crew other) {
            men = other.men;
            lamps = other.lamps;
            System.arraycopy(other.manAt, 0, manAt, 0, MEN_MOST);
            System.arraycopy(other.lampAt, 0, lampAt, 0, LAMPS_MOST);
            System.arraycopy(other.lampEnd, 0, lampEnd, 0, LAMPS_MOST);
            copy(other.knows, knows);
            copy(other.slow, slow);
            copy(other.fallen, fallen);
        }

        /** By hand: the library's copies are for arrays of numbers alone here (LANGUAGE.md, 4). */
        private static void copy(boolean[] original, boolean[] copied) {
            for (int i = 0; i < original.length && i < copied.length; i++) {
                copied[i] = original[i];
            }
        }

        private int addMan(int p, boolean hasHeard, boolean isSlow) {
            int m = men;
            manAt[m] = p;
            knows[m] = hasHeard;
            slow[m] = isSlow;
            men++;
            return m;
        }

        private int addLamp(int p, int end) {
            int l = lamps;
            lampAt[l] = p;
            lampEnd[l] = end;
            lamps++;
            return l;
        }

        private int knowing() {
            int sum = 0;
            for (int m = 0; m < men; m++) {
                sum += bit(knows[m]);
            }
            return sum;
        }

        /** The set of places where some man does not know. */
        private int untoldPlaces() {
            int set = 0;
            for (int m = 0; m < men; m++) {
                if (!knows[m]) {
                    set |= 1 << manAt[m];
                }
            }
            return set;
        }

        private boolean someSlowAt(int p) {
            for (int m = 0; m < men; m++) {
                if (manAt[m] == p && slow[m]) {
                    return true;
                }
            }
            return false;
        }
    }

    /**
     * Walks of one kind (light, slow or not, a mark). Whoever goes into a way later is not through
     * it sooner, so that the soonest at each place, and the last minute to leave it, are enough.
     */
    private static final class Walks {
        private final Pit pit;
        private final Crew crew;
        private final int[] lit = new int[WAYS_MOST];
        private final int[] dark = new int[WAYS_MOST];
        /** One who is through by then has a light on this way. */
        private final int[] burns = new int[WAYS_MOST];
        /** One must be through by then; NONE: it has fallen. */
        private final int[] fills = new int[WAYS_MOST];
        private final int[] when = new int[PLACES_MOST];
        private final int[] leave = new int[PLACES_MOST];

        private Walks(Pit pit, Crew crew) {
            this.pit = pit;
            this.crew = crew;
        }

        private void prepare(int end, boolean isSlow) {
            prepareMarked(end, isSlow, NONE, NONE);
        }

        private void prepareMarked(int end, boolean isSlow, int markAt, int markEnd) {
            int times = isSlow ? 2 : 1;
            for (int k = 0; k < pit.ways; k++) {
                int darkMinutes = pit.fact(k, WAY_DARK);
                lit[k] = times * pit.fact(k, WAY_LIT);
                dark[k] = darkMinutes == NONE ? NONE : times * darkMinutes;
                burns[k] = pit.touches(k, markAt) ? Math.max(end, markEnd) : end;
                fills[k] = crew.fallen[k] ? NONE : pit.fact(k, WAY_FILLS);
            }
        }

        /** The minute at which one is through who goes into the way at a minute; NONE. */
        private int through(int k, int minute) {
            int end = minute + lit[k];
            if (end > burns[k]) {
                if (dark[k] == NONE) {
                    return NONE;
                }
                end = minute + dark[k];
            }
            return end <= fills[k] ? end : NONE;
        }

        /** The last minute to go into the way so as to be through by a minute; NONE. */
        private int lastInto(int k, int by) {
            int end = by < fills[k] ? by : fills[k];
            int into = (end < burns[k] ? end : burns[k]) - lit[k];
            if (dark[k] != NONE && end - dark[k] > into) {
                into = end - dark[k];
            }
            return into < 0 ? NONE : into;
        }

        /** The soonest at each place, for one who is at p at a minute. */
        private void spread(int p, int minute) {
            Arrays.fill(when, NONE);
            when[p] = minute;
            boolean changed = true;
            for (int round = 0; round < PLACES_MOST && changed; round++) {
                changed = false;
                for (int k = 0; k < pit.ways; k++) {
                    int a = pit.fact(k, WAY_A);
                    int b = pit.fact(k, WAY_B);
                    changed = comesSooner(k, a, b) || changed;
                    changed = comesSooner(k, b, a) || changed;
                }
            }
        }

        private boolean comesSooner(int k, int from, int to) {
            if (when[from] == NONE) {
                return false;
            }
            int end = through(k, when[from]);
            if (end == NONE || (when[to] != NONE && when[to] <= end)) {
                return false;
            }
            when[to] = end;
            return true;
        }

        /** The last minute to leave each place, so as to be at p by a minute; no pit: nothing. */
        private void gather(int p, int minute) {
            Arrays.fill(leave, NONE);
            if (p == NONE) {
                return;
            }
            leave[p] = minute;
            boolean changed = true;
            for (int round = 0; round < PLACES_MOST && changed; round++) {
                changed = false;
                for (int k = 0; k < pit.ways; k++) {
                    int a = pit.fact(k, WAY_A);
                    int b = pit.fact(k, WAY_B);
                    changed = leavesLater(k, a, b) || changed;
                    changed = leavesLater(k, b, a) || changed;
                }
            }
        }

        private boolean leavesLater(int k, int from, int to) {
            if (leave[to] == NONE) {
                return false;
            }
            int into = lastInto(k, leave[to]);
            if (into <= leave[from]) {
                return false;
            }
            leave[from] = into;
            return true;
        }

        /** The way from p to q that is through first, of like ones the least; NONE. */
        private int choice(int p, int q, int minute) {
            int best = NONE;
            int bestEnd = NONE;
            for (int k = 0; k < pit.ways; k++) {
                if (!pit.touches(k, p) || pit.beyond(k, p) != q) {
                    continue;
                }
                int end = through(k, minute);
                if (end != NONE && (best == NONE || end < bestEnd)) {
                    best = k;
                    bestEnd = end;
                }
            }
            return best;
        }

        /** For each place the fewest ways that lead to it from p, of those that have not fallen. */
        private void countWaysFrom(int p) {
            for (int k = 0; k < pit.ways; k++) {
                lit[k] = 1;
                dark[k] = NONE;
                burns[k] = LAST_MINUTE;
                fills[k] = crew.fallen[k] ? NONE : LAST_MINUTE;
            }
            spread(p, 0);
        }
    }

    /** The most that can be up: a flow through the places at each minute, a man at a time. */
    private static final class Lifting {
        private static final int TIMES = LIFT_LAST + 1;
        private static final int NODES = PLACES_MOST * TIMES;
        /** Steps into ways come first (each way has two sides), then the waits. */
        private static final int WAITS = 2 * WAYS_MOST * TIMES;
        private static final int STEPS = WAITS + NODES;
        private static final int UNSEEN = -1;
        private static final int START = -2;

        private final Pit pit;
        private final Crew crew;
        /** How many men take a step. */
        private final int[] taken = new int[STEPS];
        private final int[] lifted = new int[TIMES];
        private final int[] behind = new int[PLACES_MOST];
        /** The ways at each place that have not fallen, and how many. */
        private final int[] near = new int[PLACES_MOST * WAYS_MOST];
        private final int[] nearCount = new int[PLACES_MOST];
        /** The node from which a node was seen; UNSEEN; START. */
        private final int[] from = new int[NODES];
        /** The step by which it was seen; less than 0: back along step (-1 less this). */
        private final int[] by = new int[NODES];
        private final int[] queue = new int[NODES];
        private int queued;
        private int end;

        private Lifting(Pit pit, Crew crew) {
            this.pit = pit;
            this.crew = crew;
        }

        /** How many are up by the minute; if some are not, what can be seen then stays seen. */
        private int lift(int minute) {
            end = minute;
            Arrays.fill(taken, 0);
            Arrays.fill(lifted, 0);
            Arrays.fill(behind, 0);
            for (int m = 0; m < crew.men; m++) {
                behind[crew.manAt[m]]++;
            }
            findNear();
            int sum = 0;
            for (int m = 0; m < crew.men; m++) {
                int node = search();
                if (node == NONE) {
                    break;
                }
                send(node);
                sum++;
            }
            return sum;
        }

        private void findNear() {
            Arrays.fill(nearCount, 0);
            for (int k = 0; k < pit.ways; k++) {
                if (!crew.fallen[k]) {
                    addNear(pit.fact(k, WAY_A), k);
                    addNear(pit.fact(k, WAY_B), k);
                }
            }
        }

        private void addNear(int p, int k) {
            near[p * WAYS_MOST + nearCount[p]] = k;
            nearCount[p]++;
        }

        /** A place and minute at which the shaft can lift one more; NONE. */
        private int search() {
            Arrays.fill(from, UNSEEN);
            queued = 0;
            for (int p = 0; p < pit.places; p++) {
                if (behind[p] > 0) {
                    see(p * TIMES, START, 0);
                }
            }
            for (int head = 0; head < queued && head < NODES; head++) {
                int node = queue[head];
                int p = node / TIMES;
                int minute = node % TIMES;
                if (p == pit.shaft && lifted[minute] < pit.lifts) {
                    return node;
                }
                seeByWaiting(node, minute);
                for (int i = 0; i < nearCount[p]; i++) {
                    seeByWay(near[p * WAYS_MOST + i], p, minute);
                }
            }
            return NONE;
        }

        private void see(int node, int seenFrom, int step) {
            if (from[node] == UNSEEN && queued < NODES) {
                from[node] = seenFrom;
                by[node] = step;
                queue[queued] = node;
                queued++;
            }
        }

        private void seeByWaiting(int node, int minute) {
            if (minute < end) {
                see(node + 1, node, WAITS + node);
            }
            if (minute > 0 && taken[WAITS + node - 1] > 0) {
                see(node - 1, node, -1 - (WAITS + node - 1));
            }
        }

        private void seeByWay(int k, int p, int minute) {
            int q = pit.beyond(k, p);
            int lit = pit.fact(k, WAY_LIT);
            int through = minute + lit;
            int step = stepInto(k, p, minute);
            if (through <= Math.min(end, pit.fact(k, WAY_FILLS)) && taken[step] < pit.fact(k, WAY_WIDE)) {
                see(q * TIMES + through, p * TIMES + minute, step);
            }
            int into = minute - lit;
            if (into >= 0) {
                int back = stepInto(k, q, into);
                if (taken[back] > 0) {
                    see(q * TIMES + into, p * TIMES + minute, -1 - back);
                }
            }
        }

        private int stepInto(int k, int p, int minute) {
            int side = p == pit.fact(k, WAY_A) ? 0 : 1;
            return (2 * k + side) * TIMES + minute;
        }

        /** Sends a man along what was seen, up to a node at the shaft. */
        private void send(int top) {
            lifted[top % TIMES]++;
            int node = top;
            for (int i = 0; i < NODES && from[node] >= 0; i++) {
                int step = by[node];
                if (step >= 0) {
                    taken[step]++;
                } else {
                    taken[-1 - step]--;
                }
                node = from[node];
            }
            behind[node / TIMES]--;
        }

        private int seenPlaces() {
            int set = 0;
            for (int i = 0; i < queued; i++) {
                set |= 1 << queue[i] / TIMES;
            }
            return set;
        }
    }

    /** Those who leave at minute 0 with the lamps of their place, a lamp lent, a lamp as a mark. */
    private static final class Leaving {
        private final Pit pit;
        private final Crew crew;
        private final Walks walks;
        private final int[] line = new int[MEN_MOST];
        private int lined;
        private int markLamp = NONE;
        private int markAt = NONE;
        private int markEnd = NONE;

        private Leaving(Pit pit, Crew crew, Walks walks) {
            this.pit = pit;
            this.crew = crew;
            this.walks = walks;
        }

        private void noMark() {
            markLamp = NONE;
            markAt = NONE;
            markEnd = NONE;
        }

        private void leaveMark(int l, int p) {
            markLamp = l;
            markAt = p;
            markEnd = crew.lampEnd[l];
        }

        private int upFromAll(int more) {
            int sum = 0;
            for (int p = 0; p < pit.places; p++) {
                sum += upFrom(p, more);
            }
            return sum;
        }

        private int upFrom(int p, int more) {
            lined = 0;
            lineUp(p, false);
            lineUp(p, true);
            int next = 0;
            int sum = 0;
            for (int l = 0; l < crew.lamps; l++) {
                if (l == markLamp || crew.lampAt[l] != p || next >= lined) {
                    continue;
                }
                int behind = Math.min(lined, next + 1 + more);
                // The slow stand last in the line: if one of these is slow, the last one is.
                if (comesUp(p, crew.lampEnd[l], crew.slow[line[behind - 1]])) {
                    sum += behind - next;
                }
                next = behind;
            }
            for (int i = next; i < lined; i++) {
                sum += bit(comesUp(p, NONE, crew.slow[line[i]]));
            }
            return sum;
        }

        private void lineUp(int p, boolean isSlow) {
            for (int m = 0; m < crew.men; m++) {
                if (crew.manAt[m] == p && crew.knows[m] && crew.slow[m] == isSlow) {
                    line[lined] = m;
                    lined++;
                }
            }
        }

        private boolean comesUp(int p, int light, boolean isSlow) {
            walks.prepareMarked(light, isSlow, markAt, markEnd);
            walks.gather(pit.shaft, LAST_MINUTE);
            return walks.leave[p] != NONE;
        }

        /** The minute at which the men of p are at the shaft with a lamp that is brought; NONE. */
        private int lend(int l, int p) {
            lined = 0;
            lineUp(crew.lampAt[l], false);
            lineUp(crew.lampAt[l], true);
            if (lined == 0) {
                return NONE;
            }
            int bringer = line[0];
            walks.prepare(crew.lampEnd[l], crew.slow[bringer]);
            walks.spread(crew.lampAt[l], 0);
            int brought = walks.when[p];
            if (brought == NONE) {
                return NONE;
            }
            walks.prepare(crew.lampEnd[l], crew.slow[bringer] || crew.someSlowAt(p));
            walks.spread(p, brought);
            return walks.when[pit.shaft];
        }
    }

    /**
     * Tellers. The places where some man does not know are the stops here, numbered from 0 on as
     * they come, so that sets of stops are in the same order as the sets of their places.
     */
    private static final class Telling {
        private static final int ROWS = (STOPS_MOST + 1) * MINUTES;

        private final Pit pit;
        private final Crew crew;
        private final Walks walks;
        /** The places of the stops, and behind them the place of the teller. */
        private final int[] stopAt = new int[STOPS_MOST + 1];
        private int stops;
        /** The last minutes to begin in the dark at each place. */
        private final int[] fastLast = new int[PLACES_MOST];
        private final int[] slowLast = new int[PLACES_MOST];
        /** The last minutes at which the teller can leave each place. */
        private final int[] tellerLast = new int[PLACES_MOST];
        /** By sets of stops the most that are told and up; NONE. */
        private final int[] first = new int[STOP_SETS];
        private final int[] second = new int[STOP_SETS];
        /** For each stop and minute the soonest at each stop; made, if its row has this weighing. */
        private final int[] soonestAt = new int[ROWS * STOPS_MOST];
        private final int[] madeFor = new int[ROWS];
        private int weighing;
        private int[] best = first;
        private int asked;

        private Telling(Pit pit, Crew crew, Walks walks) {
            this.pit = pit;
            this.crew = crew;
            this.walks = walks;
        }

        private void findStops() {
            int places = crew.untoldPlaces();
            stops = 0;
            for (int p = 0; p < PLACES_MOST && stops < STOPS_MOST; p++) {
                if ((places >> p & 1) != 0) {
                    stopAt[stops] = p;
                    stops++;
                }
            }
            findLast(NONE, false, fastLast);
            findLast(NONE, true, slowLast);
        }

        private void findLast(int end, boolean isSlow, int[] into) {
            walks.prepare(end, isSlow);
            walks.gather(pit.shaft, LAST_MINUTE);
            System.arraycopy(walks.leave, 0, into, 0, PLACES_MOST);
        }

        private int allStops() {
            return (1 << stops) - 1;
        }

        private int stopsOf(int places) {
            int set = 0;
            for (int s = 0; s < stops; s++) {
                set |= (places >> stopAt[s] & 1) << s;
            }
            return set;
        }

        private int placesOf(int set) {
            int places = 0;
            for (int s = 0; s < stops; s++) {
                places |= (set >> s & 1) << stopAt[s];
            }
            return places;
        }

        /** For each set of the asked stops the most that a teller from minute t tells and are up. */
        private void weigh(int[] into, int m, int end, int t, int set) {
            best = into;
            asked = set;
            weighing++;
            Arrays.fill(best, NONE);
            findLast(end, crew.slow[m], tellerLast);
            stopAt[stops] = crew.manAt[m];
            if (t <= tellerLast[crew.manAt[m]]) {
                goOnFrom(this, stops, t, 0, 0, 0);
            }
        }

        /** Goes on from a stop in all rows; length: the stops of the row so far. */
        private static void goOnFrom(Telling x, int stop, int minute, int set, int told, int length) {
            x.best[set] = Math.max(x.best[set], told);
            if (set == x.asked || length >= x.stops) {
                return;
            }
            int line = x.soonestRow(stop, minute);
            for (int next = 0; next < x.stops; next++) {
                int more = set | 1 << next;
                int at = x.soonestAt[line + next];
                if (more == set || (more & ~x.asked) != 0 || at == NONE) {
                    continue;
                }
                // From where he cannot come up at once, he cannot by other stops either.
                if (at <= x.tellerLast[x.stopAt[next]]) {
                    goOnFrom(x, next, at, more, told + x.upWhenTold(x.stopAt[next], at), length + 1);
                }
            }
        }

        /** Where in soonestAt the row of a stop and a minute begins; it is made, if it was not. */
        private int soonestRow(int stop, int minute) {
            int line = stop * MINUTES + minute;
            if (madeFor[line] != weighing) {
                madeFor[line] = weighing;
                walks.spread(stopAt[stop], minute);
                for (int s = 0; s < stops; s++) {
                    soonestAt[line * STOPS_MOST + s] = walks.when[stopAt[s]];
                }
            }
            return line * STOPS_MOST;
        }

        private int upWhenTold(int p, int minute) {
            int sum = 0;
            for (int m = 0; m < crew.men; m++) {
                if (crew.manAt[m] == p && !crew.knows[m]) {
                    sum += bit(minute <= (crew.slow[m] ? slowLast[p] : fastLast[p]));
                }
            }
            return sum;
        }

        /** The set of stops with the most, of like ones the least; NONE. */
        private int bestOfOne() {
            int found = NONE;
            for (int set = 0; set <= allStops(); set++) {
                if (first[set] != NONE && (found == NONE || first[set] > first[found])) {
                    found = set;
                }
            }
            return found;
        }

        /** 0, 1 the two sets, 2 how many together; NONE. */
        private int bestOfTwo(int what) {
            int bestFirst = NONE;
            int bestSecond = NONE;
            int most = NONE;
            for (int one = 0; one <= allStops(); one++) {
                for (int two = 0; two <= allStops(); two++) {
                    if ((one & two) != 0 || first[one] == NONE || second[two] == NONE) {
                        continue;
                    }
                    if (first[one] + second[two] > most) {
                        most = first[one] + second[two];
                        bestFirst = one;
                        bestSecond = two;
                    }
                }
            }
            if (most == NONE || what == 2) {
                return most;
            }
            return placesOf(what == 0 ? bestFirst : bestSecond);
        }

        /** The least minute at which a teller can not tell a place and come up. */
        private int lateFor(int m, int end, int p) {
            findLast(end, crew.slow[m], tellerLast);
            if (tellerLast[p] == NONE) {
                return 0;
            }
            walks.gather(p, tellerLast[p]);
            return walks.leave[crew.manAt[m]] + 1;
        }
    }

    /** The row of places that a plan is told by. */
    private static final class Row {
        private final int[] places = new int[ROW_MOST];
        private int size;

        private void append(int p) {
            if (size < ROW_MOST) {
                places[size] = p;
                size++;
            }
        }
    }

    /** Rows that are walked step by step, by the walks that have been prepared. */
    private static final class Plans {
        private final Pit pit;
        private final Row row;
        private final Walks walks;
        /** The first wrong step of the row followed; NONE. */
        private int wrong;
        private int minute;
        private int chance;
        private int best;

        private Plans(Pit pit, Row row, Walks walks) {
            this.pit = pit;
            this.row = row;
            this.walks = walks;
        }

        private void follow(int t) {
            wrong = NONE;
            minute = t;
            chance = MILLION;
            for (int step = 1; step < row.size; step++) {
                int k = walks.choice(row.places[step - 1], row.places[step], minute);
                if (k == NONE) {
                    wrong = step;
                    return;
                }
                minute = walks.through(k, minute);
                chance = both(chance, pit.notBad(k, minute));
            }
        }

        private static int both(int one, int other) {
            return (int) ((long) one * other / MILLION);
        }

        /** The greatest chance of all rows from p to the shaft; 0: there is no such row. */
        private int bestChance(int p, int t) {
            best = 0;
            goOnFrom(this, p, t, MILLION, 1 << p, 1);
            return best;
        }

        /** Goes on from a place in all rows; seen: the row's places, length: how many. */
        private static void goOnFrom(Plans x, int p, int minute, int chance, int seen, int length) {
            if (p == x.pit.shaft) {
                x.best = Math.max(x.best, chance);
                return;
            }
            if (length >= SAFEST_MOST) {
                return;
            }
            for (int k = 0; k < x.pit.ways; k++) {
                if (!x.pit.touches(k, p)) {
                    continue;
                }
                int q = x.pit.beyond(k, p);
                if ((seen >> q & 1) != 0 || x.walks.choice(p, q, minute) != k) {
                    continue;
                }
                int through = x.walks.through(k, minute);
                int with = both(chance, x.pit.notBad(k, through));
                // No row gets better by going on.
                if (with > x.best) {
                    goOnFrom(x, q, through, with, seen | 1 << q, length + 1);
                }
            }
        }
    }
}
