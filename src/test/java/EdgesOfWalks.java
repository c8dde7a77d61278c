/** Men and lamps, walks, the most and the cut: promises 8 to 17. */
final class EdgesOfWalks extends EdgesPart {
    EdgesOfWalks(Edges edges) {
        super(edges);
    }

    @Override
    void look() {
        men();
        lamps();
        fallen();
        man();
        lamp();
        told();
        light();
        moves();
        walk();
        slowWalk();
        throughByF();
        waitsNowhere();
        soonestSaid();
        lastSaid();
        soonest();
        last();
        open();
        mostSaid();
        mostTakesIn();
        mostLifts();
        mostWaits();
        mostCall();
        cutOfStayers();
        cutByWhatIsLeft();
        cutOfNone();
        cutCall();
    }

    // ---- men, lamps

    private void men() {
        says("MEN (8 at most) are at a PLACE, KNOW or not, are SLOW or not (each WAY takes one twice as long).");
        LastLamps x = Check.pit(LINE);
        for (int i = 0; i < 8; i++) due("man " + i, x.man(i % 4, (i & 1) != 0, (i & 2) != 0), i);
        due("a ninth", x.man(0, true, true), FULL);
        for (int i = 0; i < 8; i++) {
            due("place of " + i, x.told(i, 0), i % 4);
            due("knows " + i, x.told(i, 1), i & 1);
            due("slow " + i, x.told(i, 2), i >> 1 & 1);
        }
        due("with a light", x.soonest(1, 0, 0, 99, false), 5);
        due("slow with a light", x.soonest(1, 0, 0, 99, true), 10);
        due("in the dark", x.soonest(1, 0, 0, NONE, false), 8);
        due("slow in the dark", x.soonest(1, 0, 0, NONE, true), 16);
    }

    private void lamps() {
        says("LAMPS (4 at most) are at a PLACE, burn to the minute E (0 .. 99).");
        LastLamps x = Check.pit(LINE);
        int[] ends = {0, 99, 1, 98};
        for (int i = 0; i < 4; i++) due("lamp " + i, x.lamp(3 - i, ends[i]), i);
        due("a fifth", x.lamp(0, 0), FULL);
        for (int i = 0; i < 4; i++) {
            due("place of " + i, x.light(i, 0), 3 - i);
            due("end of " + i, x.light(i, 1), ends[i]);
        }
        LastLamps y = Check.pit(LINE);
        due("to -1", y.lamp(0, -1), OUTSIDE);
        due("to 100", y.lamp(0, 100), OUTSIDE);
    }

    private void fallen() {
        says("FALLEN WAYS are shut to all.");
        LastLamps x = Check.pit("places 2;out 0 1;way 0 1 5 dark 8;");
        x.man(1, true, false);
        x.man(1, false, false);
        x.man(0, true, false);
        x.lamp(1, 50);
        x.go(1);
        x.go(0);
        int[] open = {5, 91, 3, 3, 2, 5, 1, NONE, 1000000, 1000000, 500};
        int[] shut = {NONE, NONE, 1, 1, 1, NONE, NONE, 1, NOT, 0, 0};
        for (int round = 0; round < 3; round++) {
            int[] due = round == 1 ? shut : open;
            String is = round == 1 ? "shut: " : "open: ";
            x.fall(0, round == 1);
            due(is + "soonest", x.soonest(1, 0, 0, 50, false), due[0]);
            due(is + "last", x.last(1, NONE, false), due[1]);
            due(is + "open", x.open(0, 99, false), due[2]);
            due(is + "most", x.most(60), due[3]);
            due(is + "up", x.up(0, NONE), due[4]);
            due(is + "lent", x.lent(0, 1), due[5]);
            due(is + "tells", x.tells(2, 50, 0, 2), due[6]);
            due(is + "judge", x.judge(0, 0, 50, 0), due[7]);
            due(is + "safe", x.safe(0, 50), due[8]);
            due(is + "safest", x.safest(1, 0, 50), due[9]);
            due(is + "knock", x.knock(0, 500), due[10]);
            due(is + "tooLate", x.tooLate(2, NONE, 1), round == 1 ? 0 : 84);
            due(is + "cut", x.cut(60), round == 1 ? 2 : 0);
            due(is + "mark", x.mark(0, 1, 0), 100);
        }
    }

    private void man() {
        plain("## Promise 8: man");
        says("`int man(int p, boolean knows, boolean slow)`: A MAN: his number. UNKNOWN (the PLACE), FULL.");
        LastLamps x = Check.pit(LINE);
        int[] ps = {-1, 4, 12, MIN, MAX};
        for (int p : ps) due("at " + p, x.man(p, true, true), UNKNOWN);
        due("none of these is there", x.count(2), 0);
        for (int i = 0; i < 8; i++) due("his number", x.man(3, i > 3, i > 5), i);
        for (int p : ps) due("a ninth at " + p, x.man(p, true, true), UNKNOWN);
        for (int p = 0; p < 4; p++) due("a ninth at " + p, x.man(p, true, true), FULL);
        due("men", x.count(2), 8);
    }

    private void lamp() {
        plain("## Promise 9: lamp");
        says("`int lamp(int p, int end)`: A LAMP: its number. UNKNOWN, OUTSIDE, FULL.");
        LastLamps x = Check.pit(LINE);
        int[] ps = {-1, 4, 12, MIN, MAX};
        for (int p : ps) due("at " + p, x.lamp(p, 50), UNKNOWN);
        for (int e : NO_MINUTES) due("to " + e, x.lamp(0, e), OUTSIDE);
        due("both", x.lamp(4, 100), UNKNOWN);
        due("none of these is there", x.count(3), 0);
        for (int i = 0; i < 4; i++) due("its number", x.lamp(i, 33 * i), i);
        due("a fifth", x.lamp(0, 0), FULL);
        due("a fifth to 100", x.lamp(0, 100), OUTSIDE);
        due("a fifth at 4", x.lamp(4, 0), UNKNOWN);
        due("lamps", x.count(3), 4);
    }

    private void told() {
        plain("## Promise 10: told");
        says("`int told(int m, int what)`: Of a MAN: what = 0 PLACE, 1 KNOWS, 2 SLOW (1, 0). UNKNOWN, OUTSIDE.");
        LastLamps x = Check.pit(LINE);
        due("man 0, there is none", x.told(0, 0), UNKNOWN);
        x.man(3, true, false);
        x.man(0, false, true);
        int[][] due = {{3, 1, 0}, {0, 0, 1}};
        for (int m = 0; m < 2; m++) for (int w = 0; w < 3; w++) due("man " + m + ", " + w, x.told(m, w), due[m][w]);
        int[] ms = {-1, 2, 8, MIN, MAX}, whats = {-1, 3, MIN, MAX};
        for (int m : ms) due("man " + m, x.told(m, 0), UNKNOWN);
        for (int w : whats) due("what " + w, x.told(1, w), OUTSIDE);
        due("both", x.told(2, 3), UNKNOWN);
    }

    private void light() {
        plain("## Promise 11: light");
        says("`int light(int l, int what)`: Of a LAMP: what = 0 PLACE, 1 E. UNKNOWN, OUTSIDE.");
        LastLamps x = Check.pit(LINE);
        due("lamp 0, there is none", x.light(0, 0), UNKNOWN);
        x.lamp(3, 0);
        x.lamp(0, 99);
        due("place", x.light(0, 0), 3);
        due("E", x.light(0, 1), 0);
        due("place of the second", x.light(1, 0), 0);
        due("E of the second", x.light(1, 1), 99);
        int[] ls = {-1, 2, 4, MIN, MAX}, whats = {-1, 2, MIN, MAX};
        for (int l : ls) due("lamp " + l, x.light(l, 0), UNKNOWN);
        for (int w : whats) due("what " + w, x.light(1, w), OUTSIDE);
        due("both", x.light(2, 2), UNKNOWN);
    }

    private void moves() {
        plain("## Promise 12: moves");
        says("`int moves(int m, int p, boolean knows)`: A MAN is at another PLACE, KNOWS or not: where he was. UNKNOWN.");
        LastLamps x = Check.pit(LINE);
        due("man 0, there is none", x.moves(0, 0, true), UNKNOWN);
        x.man(3, true, true);
        x.man(1, false, false);
        due("to 0", x.moves(0, 0, false), 3);
        due("is there", x.told(0, 0), 0);
        due("does not know", x.told(0, 1), 0);
        due("as slow as he was", x.told(0, 2), 1);
        due("stays, and knows", x.moves(0, 0, true), 0);
        due("knows", x.told(0, 1), 1);
        due("the other is where he was", x.told(1, 0), 1);
        due("the other does not know", x.told(1, 1), 0);
        int[] ms = {-1, 2, 8, MIN, MAX}, ps = {-1, 4, 12, MIN, MAX};
        for (int m : ms) due("man " + m, x.moves(m, 0, true), UNKNOWN);
        for (int p : ps) due("to " + p, x.moves(1, p, true), UNKNOWN);
        due("the other has not heard", x.told(1, 1), 0);
    }

    // ---- walks

    private void walk() {
        plain("======== 2 A WALK with");
        says("a light to minute E (NONE: no light) from a PLACE at a minute: WAY by WAY: at minute t it takes L, if t and L is E at most, else D (if it can be gone in the dark);");
        LastLamps x = Check.pit(LINE);
        due("t and L is E", x.soonest(1, 0, 0, 5, false), 5);
        due("t and L is one more", x.soonest(1, 0, 0, 4, false), 8);
        due("t and L is E, later", x.soonest(1, 0, 40, 45, false), 45);
        due("t and L is one more, later", x.soonest(1, 0, 41, 45, false), 49);
        due("no light", x.soonest(1, 0, 0, NONE, false), 8);
        due("a light to 0", x.soonest(1, 0, 0, 0, false), 8);
        due("it cannot be gone in the dark", x.soonest(2, 1, 0, 3, false), NONE);
        due("it can with a light", x.soonest(2, 1, 0, 4, false), 4);
        due("with a light, then with it to its end", x.soonest(2, 0, 0, 9, false), 9);
        due("with a light, then in the dark", x.soonest(2, 0, 0, 8, false), 12);
        due("down with a light", x.soonest(0, 2, 0, 11, false), 9);
        due("the light is out at 8", x.soonest(0, 2, 0, 4, false), NONE);
        LastLamps y = Check.pit("places 2;out 0 1;way 0 1 1 dark 1;");
        due("as long in the dark", y.soonest(1, 0, 50, 20, false), 51);
    }

    private void slowWalk() {
        says("twice that, if SLOW (the light must last for all of it);");
        LastLamps x = Check.pit(LINE);
        due("it lasts for all", x.soonest(1, 0, 0, 10, true), 10);
        due("not for all", x.soonest(1, 0, 0, 9, true), 16);
        due("for L only", x.soonest(1, 0, 0, 5, true), 16);
        due("later, for all", x.soonest(1, 0, 7, 17, true), 17);
        due("later, not for all", x.soonest(1, 0, 8, 17, true), 24);
        due("no dark, for all", x.soonest(2, 1, 0, 8, true), 8);
        due("no dark, not for all", x.soonest(2, 1, 0, 7, true), NONE);
        due("no light", x.soonest(1, 0, 0, NONE, true), 16);
    }

    private void throughByF() {
        says("it must be through by F;");
        LastLamps x = Check.pit(LINE);
        due("with a light at F", x.soonest(1, 0, 55, 99, false), 60);
        due("a minute late", x.soonest(1, 0, 56, 99, false), NONE);
        due("in the dark at F", x.soonest(1, 0, 52, NONE, false), 60);
        due("in the dark a minute late", x.soonest(1, 0, 53, NONE, false), NONE);
        due("slow at F", x.soonest(1, 0, 50, 99, true), 60);
        due("slow a minute late", x.soonest(1, 0, 51, 99, true), NONE);
        due("slow in the dark at F", x.soonest(1, 0, 44, NONE, true), 60);
        due("slow in the dark a minute late", x.soonest(1, 0, 45, NONE, true), NONE);
        due("the second way at F", x.soonest(2, 0, 51, 99, false), 60);
        due("the second way a minute late", x.soonest(2, 0, 52, 99, false), NONE);
        due("back at F", x.soonest(0, 1, 55, 99, false), 60);
        due("back, a minute late", x.soonest(0, 1, 56, 99, false), NONE);
    }

    private void waitsNowhere() {
        says("it waits nowhere.");
        // The light is out at 6: who came to 1 at 4 had it for 2 minutes more, and does not wait there.
        LastLamps x = Check.pit("places 3;out 0 1;way 2 1 4;way 1 0 2 dark 9;");
        due("on at once", x.soonest(2, 0, 0, 6, false), 6);
        due("a minute less", x.soonest(2, 0, 0, 5, false), 13);
        due("where one is, one is at once", x.soonest(2, 2, 41, 6, true), 41);
    }

    private void soonestSaid() {
        says("SOONEST at a PLACE: the least minute at which a WALK comes there (NONE).");
        LastLamps x = Check.pit("places 5;out 0 1;way 0 1 9 dark 9;way 0 2 2 dark 6;way 2 1 2 dark 6;way 2 3 1 fills 1;");
        due("by 2", x.soonest(0, 1, 0, 4, false), 4);
        due("by 2, a part in the dark", x.soonest(0, 1, 0, 3, false), 8);
        due("straight on", x.soonest(0, 1, 0, 1, false), 9);
        due("a way that fills too soon", x.soonest(0, 3, 0, 99, false), NONE);
        due("by that way from 2", x.soonest(2, 3, 0, 99, false), 1);
        due("no way", x.soonest(0, 4, 0, 99, false), NONE);
        due("from there", x.soonest(4, 0, 0, 99, false), NONE);
        due("where he is", x.soonest(4, 4, 7, 99, false), 7);
        // By as many ways as there can be, told from the far end and from the near one.
        StringBuilder far = new StringBuilder("places 12;out 0 1;"), near = new StringBuilder(far);
        for (int i = 0; i < 11; i++) {
            near.append("way ").append(i).append(' ').append(i + 1).append(" 1 dark 3;");
            far.append("way ").append(10 - i).append(' ').append(11 - i).append(" 1 dark 3;");
        }
        String[] texts = {near.toString(), far.toString()};
        for (String text : texts) {
            LastLamps y = Check.pit(text);
            due("eleven ways up", y.soonest(11, 0, 0, 99, false), 11);
            due("eleven ways down", y.soonest(0, 11, 0, 99, false), 11);
            due("the last in the dark", y.soonest(0, 11, 0, 10, false), 13);
            due("all in the dark and slow", y.soonest(11, 0, 33, NONE, true), 99);
            due("last", y.last(11, NONE, true), 33);
            due("open", y.open(33, NONE, true), 4095);
            due("open a minute later", y.open(34, NONE, true), 2047);
        }
    }

    private void lastSaid() {
        says("LAST: the greatest minute (0 .. 99) at which one can begin at a PLACE a WALK, with the same light, that comes to the shaft; NONE.");
        LastLamps x = Check.pit(LINE + "way 3 0 30 dark 60 fills 30;");
        due("at the shaft", x.last(0, NONE, true), 99);
        due("with a light", x.last(1, 99, false), 55);
        due("in the dark", x.last(1, NONE, false), 52);
        due("its light is out before", x.last(1, 57, false), 52);
        due("its light lasts as long", x.last(1, 58, false), 53);
        due("at 0 only", x.last(3, 30, false), 0);
        due("not even at 0", x.last(3, 29, false), NONE);
        due("slow: not even at 0", x.last(3, 99, true), NONE);
        due("light to the last way, then dark", x.last(2, 9, false), 5);
        due("no light for the first way", x.last(2, 3, false), NONE);
        due("just for it", x.last(2, 4, false), 0);
        for (int e = -1; e < 100; e++) {
            int last = x.last(1, e, true);
            due("one can, light to " + e, x.soonest(1, 0, last, e, true) != NONE ? 1 : 0, 1);
            due("none can a minute later, light to " + e, x.soonest(1, 0, last + 1, e, true), NONE);
        }
    }

    private void soonest() {
        plain("## Promise 13: soonest");
        says("`int soonest(int p, int q, int t, int end, boolean slow)`: SOONEST at PLACE q from p at minute t (0 .. 99) with a light to E (0 .. 99; NONE); NONE. UNKNOWN, OUTSIDE.");
        LastLamps x = Check.pit(LINE);
        due("at 0", x.soonest(1, 1, 0, 0, false), 0);
        due("at 99", x.soonest(1, 1, 99, 99, false), 99);
        due("no light", x.soonest(1, 1, 99, NONE, false), 99);
        int[] ps = {-1, 4, 12, MIN, MAX};
        for (int p : ps) {
            due("from " + p, x.soonest(p, 0, 0, 0, false), UNKNOWN);
            due("at " + p, x.soonest(0, p, 0, 0, false), UNKNOWN);
            due("at " + p + " at 100", x.soonest(0, p, 100, 0, false), UNKNOWN);
        }
        for (int t : NO_MINUTES) due("at minute " + t, x.soonest(0, 0, t, 0, false), OUTSIDE);
        for (int e : NO_LIGHTS) due("light to " + e, x.soonest(0, 0, 0, e, false), OUTSIDE);
    }

    private void last() {
        plain("## Promise 14: last");
        says("`int last(int p, int end, boolean slow)`: LAST; NONE. UNKNOWN, OUTSIDE.");
        LastLamps x = Check.pit(LINE);
        due("the shaft, light to 0", x.last(0, 0, false), 99);
        due("light to 99", x.last(1, 99, false), 55);
        due("slow", x.last(1, 99, true), 50);
        due("no way", x.last(3, 99, false), NONE);
        int[] ps = {-1, 4, 12, MIN, MAX};
        for (int p : ps) {
            due("from " + p, x.last(p, 0, false), UNKNOWN);
            due("from " + p + ", light to 100", x.last(p, 100, false), UNKNOWN);
        }
        for (int e : NO_LIGHTS) due("light to " + e, x.last(0, e, false), OUTSIDE);
        due("no pit", new LastLamps().last(0, 0, false), UNKNOWN);
    }

    private void open() {
        plain("## Promise 15: open");
        says("`int open(int t, int end, boolean slow)`: PLACES from which a WALK from minute t comes to the shaft: the SET. OUTSIDE.");
        LastLamps x = Check.pit(LINE);
        due("at 51, from 2 too", x.open(51, 99, false), 7);
        due("at 52, not from 2", x.open(52, 99, false), 3);
        due("at 55, from 1 too", x.open(55, 99, false), 3);
        due("at 56, the shaft alone", x.open(56, 99, false), 1);
        due("at 99", x.open(99, 99, false), 1);
        due("at 0 in the dark", x.open(0, NONE, false), 3);
        due("slow at 42", x.open(42, 99, true), 7);
        due("slow at 43", x.open(43, 99, true), 3);
        for (int t : NO_MINUTES) due("at " + t, x.open(t, 0, false), OUTSIDE);
        for (int e : NO_LIGHTS) due("light to " + e, x.open(0, e, false), OUTSIDE);
        due("no pit", new LastLamps().open(0, 0, false), 0);
        due("no pit at 100", new LastLamps().open(100, 0, false), OUTSIDE);
        due("no pit, light to 100", new LastLamps().open(0, 100, false), OUTSIDE);
        due("the shaft of another pit", Check.pit("places 3;out 2 1;").open(0, NONE, false), 4);
    }

    // ---- the most

    private void mostSaid() {
        says("THE MOST (to a minute T, 0 .. 60) that can be up, if all MEN KNOW, all had a light that lasts, none is SLOW:");
        LastLamps x = Check.pit("places 3;out 0 1;way 0 1 30;way 1 2 30;");
        x.man(2, false, true);
        due("to 59", x.most(59), 0);
        due("to 60, though he knows nothing, is slow and has no lamp", x.most(60), 1);
        x.moves(0, 0, false);
        due("to 0", x.most(0), 1);
        due("to -1", x.most(-1), OUTSIDE);
        due("to 61", x.most(61), OUTSIDE);
        // Through by F, and none goes by a fallen way.
        LastLamps y = Check.pit("places 2;out 0 9;way 0 1 5 wide 1 fills 6;");
        men(y, 8, 1, false);
        due("through at 5", y.most(5), 1);
        due("and at 6", y.most(6), 2);
        due("and none behind", y.most(60), 2);
        y.fall(0, true);
        due("fallen", y.most(60), 0);
    }

    private void mostTakesIn() {
        says("minute by minute, each WAY takes in W men each way a minute,");
        LastLamps x = Check.pit("places 2;out 0 9;way 0 1 5 wide 3;way 0 1 6 wide 1;");
        men(x, 8, 1, false);
        int[] due = {0, 0, 0, 0, 0, 3, 7, 8, 8};
        for (int t = 0; t < due.length; t++) due("to " + t, x.most(t), due[t]);
        // From both ends at once: two from 1 by 2, two from 2 by 1, each way of the one between them.
        LastLamps y = Check.pit("places 4;out 0 9;way 1 2 1 wide 1;way 1 0 1 wide 1 fills 2;way 2 0 1 wide 1 fills 2;");
        men(y, 2, 1, false);
        men(y, 2, 2, false);
        due("two at 1", y.most(1), 2);
        due("two at 2", y.most(2), 4);
        LastLamps z = Check.pit("places 2;out 0 9;way 0 1 1;");
        men(z, 8, 1, false);
        due("untold, nine a minute", z.most(1), 8);
    }

    private void mostLifts() {
        says("the shaft lifts M a minute (from 0 on, to T with it);");
        for (int m = 1; m <= 9; m++) {
            LastLamps x = Check.pit("places 2;out 1 " + m + ";way 0 1 1;");
            men(x, 8, 1, false);
            for (int t = 0; t < 8; t++) due(m + " a minute to " + t, x.most(t), Math.min(8, m * (t + 1)));
        }
        LastLamps y = Check.pit("places 2;out 0 3;way 0 1 4;");
        men(y, 8, 1, false);
        int[] due = {0, 0, 0, 0, 3, 6, 8};
        for (int t = 0; t < due.length; t++) due("they come at 4, to " + t, y.most(t), due[t]);
    }

    private void mostWaits() {
        says("men may wait.");
        LastLamps x = Check.pit("places 3;out 0 1;way 0 1 1;way 1 2 1 wide 1;");
        men(x, 3, 2, false);
        due("two wait at 2, one comes at 2", x.most(2), 1);
        due("one waits at 2 for two minutes", x.most(4), 3);
        LastLamps y = Check.pit("places 2;out 0 1;way 0 1 1;");
        men(y, 8, 1, false);
        due("they wait at the shaft", y.most(8), 8);
        // Who waits must not hold the way at 3 against him who comes there then; 1 to 4 is open to 1 only.
        LastLamps z = Check.pit("places 6;out 0 9;way 1 0 1 wide 1 fills 3;way 2 3 1;way 3 1 1;way 1 4 1 fills 1;way 4 5 1;way 5 0 1;");
        men(z, 3, 1, false);
        z.man(2, true, false);
        due("one goes at once, that another need not wait", z.most(3), 4);
    }

    private void mostCall() {
        plain("## Promise 16: most");
        says("`int most(int t)`: THE MOST to minute T. OUTSIDE, NOT: there is no PIT.");
        LastLamps x = Check.pit(LINE);
        due("nobody", x.most(60), 0);
        men(x, 1, 1, false);
        due("to 4", x.most(4), 0);
        due("to 5", x.most(5), 1);
        men(x, 1, 3, false);
        due("who has no way up", x.most(60), 1);
        int[] ts = {-1, 61, 99, MIN, MAX};
        for (int t : ts) {
            due("to " + t, x.most(t), OUTSIDE);
            due("to " + t + ", no pit", new LastLamps().most(t), OUTSIDE);
        }
        due("no pit to 0", new LastLamps().most(0), NOT);
        due("no pit to 60", new LastLamps().most(60), NOT);
        LastLamps y = new LastLamps();
        due("a fault makes no pit", y.pit(), -11);
        due("still none", y.most(0), NOT);
    }

    // ---- the cut

    private void cutOfStayers() {
        says("THE CUT, once THE MOST go: the SET of PLACES that can be come to at some minute, from PLACES at which a MAN stays behind at minute 0,");
        LastLamps x = Check.pit("places 12;out 0 1;way 1 2 5;way 2 3 5;way 11 10 30;way 10 9 30;");
        men(x, 1, 1, false);
        due("to 0: where he is", x.cut(0), 1 << 1);
        due("to 4", x.cut(4), 1 << 1);
        due("to 5", x.cut(5), 1 << 1 | 1 << 2);
        due("to 9", x.cut(9), 1 << 1 | 1 << 2);
        due("to 10", x.cut(10), 1 << 1 | 1 << 2 | 1 << 3);
        men(x, 1, 11, false);
        due("of both", x.cut(29), 1 << 1 | 1 << 2 | 1 << 3 | 1 << 11);
        due("to 30", x.cut(30), 1 << 1 | 1 << 2 | 1 << 3 | 1 << 11 | 1 << 10);
        due("to 60", x.cut(60), 1 << 1 | 1 << 2 | 1 << 3 | 1 << 11 | 1 << 10 | 1 << 9);
        // Who is up, or can be, is not behind: where he was does not count.
        LastLamps y = Check.pit("places 4;out 0 1;way 0 1 1;");
        men(y, 1, 0, false);
        men(y, 1, 1, false);
        men(y, 1, 3, false);
        due("one at 3 stays", y.cut(60), 8);
        due("at 0 one of 1 stays too", y.cut(0), 10);
    }

    private void cutByWhatIsLeft() {
        says("by what is left: WAYS that are not full, waiting, and back along what others go");
        // A way that is full: it takes in one at 0, and fills at 1.
        LastLamps x = Check.pit("places 2;out 0 9;way 0 1 1 wide 1 fills 1;");
        men(x, 2, 1, false);
        due("it is full", x.cut(60), 2);
        LastLamps wide = Check.pit("places 2;out 0 1;way 0 1 1 wide 2 fills 1;");
        men(wide, 3, 1, false);
        due("two come, the shaft lifts them one by one", wide.most(60), 2);
        due("it is full too", wide.cut(60), 2);
        due("it is not, if the shaft is", wide.cut(1), 3);
        // Waiting: at 0 the way to 2 is full of the one who comes up, at 1 it is not.
        LastLamps y = Check.pit("places 3;out 0 9;way 1 2 1 wide 1;way 2 0 1 fills 2;");
        men(y, 2, 1, false);
        due("one is up", y.most(60), 1);
        due("the other comes to 2 by waiting", y.cut(60), 6);
        due("to 1 none is up, both come to 2", y.cut(1), 6);
        // Back: whichever of 1 and 3 goes through 2 at 2, the other comes back along his way.
        LastLamps z = Check.pit("places 6;out 0 9;way 3 4 1;way 4 2 1;way 1 5 1;way 5 2 1;way 2 0 1 wide 1;");
        men(z, 1, 3, false);
        men(z, 1, 1, false);
        due("one of them", z.most(3), 1);
        due("back along the other's way", z.cut(3), 1 << 1 | 1 << 2 | 1 << 3 | 1 << 4 | 1 << 5);
        due("all, a minute later", z.cut(4), 0);
        // Back along waiting: they wait at 1 for the narrow way, and 4 could be come to but at 1.
        LastLamps w = Check.pit("places 6;out 0 9;way 1 0 1 wide 1 fills 3;way 2 3 1;way 3 1 1;way 1 4 1 fills 1;");
        men(w, 3, 1, false);
        w.man(2, true, false);
        due("three", w.most(3), 3);
        due("back to minute 0 at 1, and to 4", w.cut(3), 1 << 1 | 1 << 2 | 1 << 3 | 1 << 4);
        // Back to where the other was at 0; the shaft is at 2, and one begins at 0.
        LastLamps v = Check.pit("places 3;out 2 1;way 2 1 1 wide 1;way 0 2 1 wide 1;");
        men(v, 1, 0, false);
        men(v, 1, 1, false);
        due("the shaft lifts one of them", v.cut(1), 7);
        LastLamps u = Check.pit("places 3;out 2 1;way 2 0 2 wide 1 fills 2;way 1 0 1 wide 1;");
        men(u, 1, 1, false);
        men(u, 1, 0, false);
        due("he of 0 is up", u.most(2), 1);
        due("he of 1 comes to 0", u.cut(2), 3);
        givingWay();
    }

    /**
     * Pits in which men have to give way to one another, along ways and by not waiting, so that
     * what is left must be right after each of them. To the minutes 0 .. 6 the most and the cut.
     */
    private void givingWay() {
        String[] texts = {
            "places 6;out 0 3;way 1 3 1 wide 1 fills 2;way 3 2 2 wide 1 fills 4;way 4 3 2 wide 1;way 3 4 1 wide 1;way 3 4 1 wide 1;"
                + "way 5 2 2 wide 1;way 1 0 2 wide 1;way 1 5 2 wide 1;way 5 3 2 wide 1;",
            "places 3;out 0 1;way 0 2 2 wide 1 fills 4;way 2 1 2 wide 1;way 2 1 2 wide 1;way 2 0 1 wide 1 fills 2;",
            "places 6;out 0 3;way 5 1 1 wide 1;way 3 4 2 wide 1 fills 4;way 4 5 2 wide 1 fills 5;way 1 3 2 wide 1;way 1 0 2 wide 1;"
                + "way 4 3 1 wide 1;way 3 1 1 wide 1 fills 4;way 3 2 2 wide 1;",
            "places 3;out 1 2;way 2 1 2 wide 1;way 0 2 2 wide 1 fills 2;",
            "places 3;out 0 1;way 0 2 2 wide 1 fills 3;way 1 0 2 wide 1;way 0 1 1 wide 1 fills 3;way 2 0 2 wide 1 fills 2;way 0 2 2 wide 1 fills 3;",
            "places 3;out 1 1;way 2 1 1 wide 1 fills 4;way 1 2 2 wide 1;"};
        int[][] at = {{4, 4, 1, 3, 1}, {2, 0, 1, 0, 1, 0}, {2, 2, 2, 5, 5}, {2, 1, 1, 2, 0, 0}, {2, 2, 1, 2}, {1, 0, 2, 2, 2}};
        int[][] due = {{0, 26, 0, 26, 1, 62, 2, 62, 3, 62, 4, 62, 4, 62}, {1, 7, 2, 7, 3, 7, 4, 6, 5, 6, 5, 6, 5, 6},
            {0, 36, 0, 38, 0, 62, 1, 62, 2, 62, 3, 62, 4, 30}, {2, 5, 2, 5, 3, 5, 4, 5, 5, 1, 5, 1, 5, 1},
            {0, 6, 1, 4, 2, 5, 3, 7, 4, 0, 4, 0, 4, 0}, {1, 5, 2, 5, 3, 7, 4, 1, 4, 1, 4, 1, 4, 1}};
        for (int i = 0; i < texts.length; i++) {
            LastLamps x = Check.pit(texts[i]);
            for (int p : at[i]) x.man(p, true, false);
            for (int t = 0; t < 7; t++) {
                due("the most to " + t + " in " + texts[i], x.most(t), due[i][2 * t]);
                due("the cut to " + t + " in " + texts[i], x.cut(t), due[i][2 * t + 1]);
            }
        }
    }

    private void cutOfNone() {
        says("(0, if all come up).");
        LastLamps x = Check.pit(LINE);
        due("nobody", x.cut(60), 0);
        men(x, 1, 1, false);
        due("to 3", x.cut(3), 2);
        due("to 4, and to 2 in that time", x.cut(4), 6);
        due("to 5", x.cut(5), 0);
        due("to 60", x.cut(60), 0);
        men(x, 1, 0, false);
        due("one at 0, one at 5", x.cut(5), 0);
        men(x, 1, 3, false);
        due("not all", x.cut(60), 8);
    }

    private void cutCall() {
        plain("## Promise 17: cut");
        says("`int cut(int t)`: THE CUT to minute T. OUTSIDE, NOT.");
        LastLamps x = Check.pit(LINE);
        men(x, 1, 3, false);
        due("to 0", x.cut(0), 8);
        due("to 60", x.cut(60), 8);
        int[] ts = {-1, 61, 99, MIN, MAX};
        for (int t : ts) {
            due("to " + t, x.cut(t), OUTSIDE);
            due("to " + t + ", no pit", new LastLamps().cut(t), OUTSIDE);
        }
        due("no pit to 0", new LastLamps().cut(0), NOT);
        due("no pit to 60", new LastLamps().cut(60), NOT);
    }
}
