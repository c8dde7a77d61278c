/** Promise by promise: ordinary inputs, the edges that the document names, wrong inputs. */
public final class PromisesTest {
    private static final int NONE = -1, UNKNOWN = -1001, OUTSIDE = -1002, NOT = -1003, FULL = -1004;
    private static final int MIN = Integer.MIN_VALUE, MAX = Integer.MAX_VALUE;
    private static final Check CHECK = new Check("PromisesTest");

    /** The shaft 0; 1 is 3 away (dark 5, by minute 40); 2 is 4 behind 1 (no dark); 3 is alone. */
    private static final String SMALL = "places 4;out 0 2;way 0 1 3 dark 5 fills 40;way 1 2 4;";

    public static void main(String[] args) {
        newObject();
        feed();
        pitBecomes();
        faultsOfWords();
        faultsOfNumbers();
        faultsByPlace();
        pitLeaves();
        wayAndFall();
        count();
        manAndLamp();
        toldLightMoves();
        soonest();
        soonestByLight();
        lastAndOpen();
        most();
        cut();
        up();
        lent();
        mark();
        tells();
        toldBest();
        byTwo();
        tooLate();
        goAndClear();
        judge();
        opensAndSafe();
        safest();
        knock();
        images();
        withoutPit();
        CHECK.end();
    }

    private static void due(String call, int got, int want) {
        CHECK.due(call, got, want);
    }

    /** What pit() answers to a text, and where the fault is. */
    private static void fault(String text, int kind, int at) {
        LastLamps x = new LastLamps();
        Check.feed(x, text);
        due("pit of " + text, x.pit(), kind == 0 ? at : -10 - kind);
        due("fault of " + text, x.fault(), kind == 0 ? NONE : at);
        due("text behind " + text, x.count(5), 0);
    }

    private static String ways(int n) {
        return "way 0 1 9;".repeat(n);
    }

    // ---- 1
    private static void newObject() {
        LastLamps x = new LastLamps();
        int[] counts = {0, 0, 0, 0, 0, 0, NONE, 0, 0};
        for (int i = 0; i < counts.length; i++) due("new count " + i, x.count(i), counts[i]);
        due("new fault", x.fault(), NONE);
        due("new man", x.man(0, true, true), UNKNOWN);
        due("new goBack", x.goBack(0), NOT);
    }

    // ---- 2
    private static void feed() {
        LastLamps x = new LastLamps();
        due("feed 0", x.feed(0, 0), OUTSIDE);
        due("feed 9", x.feed(9, 0), OUTSIDE);
        due("feed least", x.feed(MIN, 0), OUTSIDE);
        due("feed most", x.feed(MAX, 0), OUTSIDE);
        due("nothing fed", x.count(5), 0);
        for (int i = 1; i <= 49; i++) due("feed 8", x.feed(8, -1L), 8 * i);
        due("feed 7", x.feed(7, 0), 399);
        due("feed 2 beyond 400", x.feed(2, 0), FULL);
        due("feed 9 beyond 400", x.feed(9, 0), OUTSIDE);
        due("still 399", x.count(5), 399);
        due("feed 1 to 400", x.feed(1, 0), 400);
        due("feed 1 beyond 400", x.feed(1, 0), FULL);
        due("byte 255 cannot stand", x.pit(), -11);
        due("at 0", x.fault(), 0);
        // Of a long only the lowest bytes count, the highest of these first.
        Check.feed(x, "places 2;ou");
        due("feed of the lowest", x.feed(1, 0x7777777777777700L | 't'), 12);
        due("feed of the lowest", x.feed(2, 0x7777777777770000L | ' ' << 8 | '1'), 14);
        Check.feed(x, " 7;");
        due("pit", x.pit(), 0);
        due("shaft", x.count(6), 1);
        due("lifts", x.count(7), 7);
    }

    // ---- 3, 4
    private static void pitBecomes() {
        fault("places 2;out 0 1;", 0, 0);
        fault("places 12;out 11 9;", 0, 0);
        fault("  places   002  ;  out  001   009  ;  ", 0, 0);
        fault("places2;out0 1;way0 1 3dark3wide9fills99bad999;", 0, 1);
        fault("places 3;way 2 0 30 dark 60;out 1 1;way 0 1 1 wide 1;", 0, 2);
        fault("places 2;out 0 1;" + ways(24), 0, 24);
        LastLamps x = Check.pit("places 3;way 2 0 30 dark 60 wide 4 fills 0 bad 7;out 1 3;way 0 1 1;");
        int[] first = {2, 0, 30, 60, 4, 0, 7, 0};
        int[] second = {0, 1, 1, NONE, 9, 99, 0, 0};
        for (int i = 0; i < 8; i++) {
            due("way 0 " + i, x.way(0, i), first[i]);
            due("way 1 " + i, x.way(1, i), second[i]);
        }
    }

    private static void faultsOfWords() {
        fault("", 1, 0);
        fault("   ", 1, 3);
        fault("place 2;", 1, 0);
        fault("placess 2;", 1, 0);
        fault(" Places 2;", 1, 1);
        fault("plac", 1, 0);
        fault("out 0 1;places 2;", 1, 0);
        fault("2;", 1, 0);
        fault(";", 1, 0);
        fault("places", 1, 6);
        fault("places ;", 1, 7);
        fault("places x", 1, 7);
        fault("places 2", 1, 8);
        fault("places 2 ", 1, 9);
        fault("places 2 3;", 1, 9);
        fault("places 2x;", 1, 8);
        fault("places 2;", 1, 9);
        fault("places 2;;", 1, 9);
        fault("places 2; places 2;", 1, 10);
        fault("places 2;wayout 0 1;", 1, 9);
        fault("places 2;out;", 1, 12);
        fault("places 2;out 0;", 1, 14);
        fault("places 2;out 0 1 1;", 1, 17);
        fault("places 2;out 0 1", 1, 16);
        fault("places 2;out 0 1;way", 1, 20);
        fault("places 2;out 0 1;way 0 1 3 out;", 1, 27);
        fault("places 2;out 0 1;way 0 1 3 dark;", 1, 31);
        fault("places 2;out 0 1;way 0 1 3 wide 1 dark 5;", 1, 34);
        fault("places 2;out 0 1;way 0 1 3 dark 5 dark 5;", 1, 34);
        fault("places 2;out 0 1;way 0 1 3 bad 5 fills 5;", 1, 33);
        fault("places 2;out 0 1;way 0 1 3 fills 5 wide 5;", 1, 35);
        fault("places 2;out 0 1;way 0 1 3 darkwide 5;", 1, 27);
        fault("places 2;out 0 1;way 0 1 -3;", 1, 25);
        fault("places 2;out 0 1;\u00e9", 1, 17);
        fault("places 2;\tout 0 1;", 1, 9);
        fault("places 2;way 0 1 3;", 1, 19);
        fault("placesa 2;", 1, 0);
        fault("placesz 2;", 1, 0);
        fault("places 2;outa 0 1;", 1, 9);
        fault("places 2;outz 0 1;", 1, 9);
        // To the very end of the room that a text has.
        String most = "places 2;out 0 1;" + ways(24) + " ".repeat(143);
        fault(most, 0, 24);
        fault(most.substring(0, 399) + "w", 1, 399);
        fault(most.substring(0, 398) + "wa", 1, 398);
        fault(most.substring(0, 397) + "way", 4, 397);
        fault(most.substring(0, 397) + "out", 3, 397);
        fault(most.substring(0, 397) + " 12", 1, 398);
        String fewer = "places 2;out 0 1;" + ways(23) + " ".repeat(153);
        fault(fewer.substring(0, 397) + "way", 1, 400);
        fault(fewer.substring(0, 394) + "way 01", 1, 400);
        fault(fewer.substring(0, 391) + "way 0 1 9", 1, 400);
        fault(fewer.substring(0, 390) + "way 0 1 9;", 0, 24);
        fault(fewer.substring(0, 388) + "way 0 1 9999", 2, 396);
        fault(fewer.substring(0, 386) + "way 0 1 9 dark", 1, 400);
    }

    private static void faultsOfNumbers() {
        fault("places 1;", 2, 7);
        fault("places 13;", 2, 7);
        fault("places 0002;", 2, 7);
        fault("places 99999999999999999999;", 2, 7);
        fault("places 2;out 2 1;", 2, 13);
        fault("places 2;out 1 0;", 2, 15);
        fault("places 2;out 1 10;", 2, 15);
        fault("places 2;out 1 9;out 0 1;", 3, 17);
        fault("places 2;out 1 9;way 0 1 1; out 9", 3, 28);
        fault("places 2;way 2 0 1;", 2, 13);
        fault("places 2;way 0 2 1;", 2, 15);
        fault("places 2;way 1 1 1;", 5, 15);
        fault("places 2;way 1 01 1;", 5, 15);
        fault("places 2;way 2 2 1;", 2, 13);
        fault("places 2;way 0 1 0;", 2, 17);
        fault("places 2;way 0 1 31;", 2, 17);
        fault("places 2;way 0 1 9 dark 8;", 2, 24);
        fault("places 2;way 0 1 9 dark 61;", 2, 24);
        fault("places 2;way 0 1 9 wide 0;", 2, 24);
        fault("places 2;way 0 1 9 wide 10;", 2, 24);
        fault("places 2;way 0 1 9 fills 100;", 2, 25);
        fault("places 2;way 0 1 9 bad 1000;", 2, 23);
        fault("places 2;way 0 1 9 bad 0000", 2, 23);
    }

    private static void faultsByPlace() {
        fault("places 2;out 0 1;" + ways(25), 4, 257);
        fault("places 2;out 0 1;" + ways(24) + " way", 4, 258);
        fault("places 2;out 0 1;" + ways(24) + " wax", 1, 258);
        fault("places 2;out 0 1;" + ways(24) + "out 0 1;", 3, 257);
        // The first byte that has a fault counts, not the least fault of all.
        fault("places 2;way 1 1 0 zzz", 5, 15);
        fault("places 2;way 0 1 99 zzz", 2, 17);
        fault("places 2;way 0 1 1 zzz 99", 1, 19);
    }

    private static void pitLeaves() {
        LastLamps x = Check.pit(SMALL);
        x.man(1, true, false);
        x.lamp(1, 9);
        x.go(2);
        x.fall(1, true);
        x.keep(1);
        Check.feed(x, "places 2;");
        due("a fault", x.pit(), -11);
        int[] counts = {4, 2, 1, 1, 1, 0, 0, 2, 1};
        for (int i = 0; i < counts.length; i++) due("as it was " + i, x.count(i), counts[i]);
        due("fallen as it was", x.way(1, 7), 1);
        due("image as it was", x.goBack(1), 1);
        Check.feed(x, "places 3;out 2 4;way 0 1 9;way 0 1 9;way 0 1 9;");
        due("a pit", x.pit(), 3);
        due("no fault", x.fault(), NONE);
        int[] anew = {3, 3, 0, 0, 0, 0, 2, 4, 0};
        for (int i = 0; i < anew.length; i++) due("anew " + i, x.count(i), anew[i]);
        due("none fallen", x.way(1, 7), 0);
        due("images gone", x.goBack(1), NOT);
        due("never kept", x.goBack(0), NOT);
    }

    // ---- 5, 6
    private static void wayAndFall() {
        LastLamps x = Check.pit(SMALL);
        due("way -1", x.way(-1, 0), UNKNOWN);
        due("way 2", x.way(2, 0), UNKNOWN);
        due("way 2, what 8", x.way(2, 8), UNKNOWN);
        due("what 8", x.way(0, 8), OUTSIDE);
        due("what -1", x.way(0, -1), OUTSIDE);
        due("what least", x.way(0, MIN), OUTSIDE);
        due("fall", x.fall(1, true), 0);
        due("fall again", x.fall(1, true), 1);
        due("fallen", x.way(1, 7), 1);
        due("the other not", x.way(0, 7), 0);
        due("clear", x.fall(1, false), 1);
        due("clear again", x.fall(1, false), 0);
        due("fall -1", x.fall(-1, true), UNKNOWN);
        due("fall 2", x.fall(2, true), UNKNOWN);
        due("fall most", x.fall(MAX, true), UNKNOWN);
    }

    // ---- 7
    private static void count() {
        LastLamps x = Check.pit(SMALL);
        x.man(0, false, false);
        x.man(0, true, false);
        x.man(0, true, false);
        x.lamp(0, 0);
        x.go(0);
        x.go(0);
        x.feed(5, 0);
        int[] counts = {4, 2, 3, 1, 2, 5, 0, 2, 2};
        for (int i = 0; i < counts.length; i++) due("count " + i, x.count(i), counts[i]);
        due("count -1", x.count(-1), OUTSIDE);
        due("count 9", x.count(9), OUTSIDE);
    }

    // ---- 8, 9
    private static void manAndLamp() {
        LastLamps x = Check.pit(SMALL);
        due("man at -1", x.man(-1, true, true), UNKNOWN);
        due("man at 4", x.man(4, true, true), UNKNOWN);
        for (int i = 0; i < 8; i++) due("man", x.man(i % 4, true, true), i);
        due("a ninth man", x.man(0, true, true), FULL);
        due("a ninth man nowhere", x.man(4, true, true), UNKNOWN);
        due("lamp at 4", x.lamp(4, 100), UNKNOWN);
        due("lamp to -1", x.lamp(0, -1), OUTSIDE);
        due("lamp to 100", x.lamp(0, 100), OUTSIDE);
        due("lamp to 0", x.lamp(0, 0), 0);
        due("lamp to 99", x.lamp(3, 99), 1);
        due("lamp", x.lamp(3, 50), 2);
        due("lamp", x.lamp(3, 50), 3);
        due("a fifth lamp", x.lamp(3, 50), FULL);
        due("a fifth lamp to 100", x.lamp(3, 100), OUTSIDE);
        due("men", x.count(2), 8);
        due("lamps", x.count(3), 4);
    }

    // ---- 10, 11, 12
    private static void toldLightMoves() {
        LastLamps x = Check.pit(SMALL);
        x.man(3, false, true);
        x.man(2, true, false);
        x.lamp(1, 77);
        int[][] men = {{3, 0, 1}, {2, 1, 0}};
        for (int m = 0; m < 2; m++) for (int i = 0; i < 3; i++) due("told", x.told(m, i), men[m][i]);
        due("told 2", x.told(2, 3), UNKNOWN);
        due("told -1", x.told(-1, 0), UNKNOWN);
        due("told what 3", x.told(1, 3), OUTSIDE);
        due("told what -1", x.told(1, -1), OUTSIDE);
        due("light place", x.light(0, 0), 1);
        due("light end", x.light(0, 1), 77);
        due("light 1", x.light(1, 2), UNKNOWN);
        due("light -1", x.light(-1, 0), UNKNOWN);
        due("light what 2", x.light(0, 2), OUTSIDE);
        due("moves", x.moves(0, 1, true), 3);
        due("moves to where he is", x.moves(0, 1, true), 1);
        due("is at", x.told(0, 0), 1);
        due("knows", x.told(0, 1), 1);
        due("slow as he was", x.told(0, 2), 1);
        due("the other stays", x.told(1, 0), 2);
        due("moves to 4", x.moves(0, 4, false), UNKNOWN);
        due("moves 2", x.moves(2, 0, false), UNKNOWN);
        due("still knows", x.told(0, 1), 1);
    }

    // ---- 13
    private static void soonest() {
        LastLamps x = Check.pit(SMALL);
        due("where he is", x.soonest(3, 3, 99, NONE, true), 99);
        due("by light", x.soonest(2, 0, 0, 99, false), 7);
        due("back", x.soonest(0, 2, 10, 99, false), 17);
        due("slow", x.soonest(2, 0, 0, 99, true), 14);
        due("no way", x.soonest(3, 0, 0, 99, false), NONE);
        due("no dark way", x.soonest(2, 0, 0, NONE, false), NONE);
        due("dark", x.soonest(1, 0, 0, NONE, false), 5);
        due("slow in the dark", x.soonest(1, 0, 0, NONE, true), 10);
        due("through by 40", x.soonest(1, 0, 37, 99, false), 40);
        due("not by 41", x.soonest(1, 0, 38, 99, false), NONE);
        due("through by 99 untold", x.soonest(1, 2, 95, 99, false), 99);
        due("not by 100", x.soonest(1, 2, 96, 99, false), NONE);
        x.fall(0, true);
        due("fallen", x.soonest(1, 0, 0, 99, false), NONE);
        due("p -1", x.soonest(-1, 0, 0, 0, false), UNKNOWN);
        due("q 4", x.soonest(0, 4, 0, 0, false), UNKNOWN);
        due("q 4 at 100", x.soonest(0, 4, 100, 0, false), UNKNOWN);
        due("at -1", x.soonest(0, 0, -1, 0, false), OUTSIDE);
        due("at 100", x.soonest(0, 0, 100, 0, false), OUTSIDE);
        due("light -2", x.soonest(0, 0, 0, -2, false), OUTSIDE);
        due("light 100", x.soonest(0, 0, 0, 100, false), OUTSIDE);
    }

    private static void soonestByLight() {
        LastLamps x = Check.pit(SMALL);
        due("the light lasts to 3", x.soonest(1, 0, 0, 3, false), 3);
        due("to 2 only", x.soonest(1, 0, 0, 2, false), 5);
        due("slow: it must last for all", x.soonest(1, 0, 0, 6, true), 6);
        due("slow: not for all", x.soonest(1, 0, 0, 5, true), 10);
        due("then dark", x.soonest(2, 0, 0, 6, false), 9);
        // The longer way may be the sooner one, where the light does not last; like ways, two places.
        LastLamps y = Check.pit("places 3;out 0 1;way 0 1 4 dark 20;way 1 0 5 dark 6;way 0 2 1 dark 1;way 2 1 2;");
        due("by the shorter way", y.soonest(1, 0, 0, 4, false), 3);
        due("by 2", y.soonest(1, 0, 0, 2, false), 3);
        due("by the second way", y.soonest(1, 0, 0, 1, false), 6);
    }

    // ---- 14, 15
    private static void lastAndOpen() {
        LastLamps x = Check.pit(SMALL);
        due("last at the shaft", x.last(0, NONE, true), 99);
        due("last by light", x.last(1, 99, false), 37);
        due("last, light to 20", x.last(1, 20, false), 35);
        due("last, light to 38", x.last(1, 38, false), 35);
        due("last, light to 39", x.last(1, 39, false), 36);
        due("last in the dark", x.last(1, NONE, false), 35);
        due("last slow", x.last(1, 99, true), 34);
        due("last slow in the dark", x.last(1, NONE, true), 30);
        due("last of 2", x.last(2, 99, false), 33);
        due("last of 2, light to 10", x.last(2, 10, false), 6);
        due("last of 2, light to 3", x.last(2, 3, false), NONE);
        due("last of 3", x.last(3, 99, false), NONE);
        due("last 4", x.last(4, 100, false), UNKNOWN);
        due("last light 100", x.last(3, 100, false), OUTSIDE);
        due("last light -2", x.last(3, -2, false), OUTSIDE);
        due("open", x.open(33, 99, false), 7);
        due("open a minute later", x.open(34, 99, false), 3);
        due("open at 37", x.open(37, 99, false), 3);
        due("open at 38", x.open(38, 99, false), 1);
        due("open slow", x.open(30, NONE, true), 3);
        due("open slow later", x.open(31, NONE, true), 1);
        due("open at 99", x.open(99, NONE, true), 1);
        due("open at 100", x.open(100, NONE, true), OUTSIDE);
        due("open at -1", x.open(-1, NONE, true), OUTSIDE);
        due("open light 100", x.open(0, 100, true), OUTSIDE);
        x.fall(1, true);
        due("last, fallen", x.last(2, 99, false), NONE);
        due("open, fallen", x.open(0, 99, false), 3);
        // Whichever way is told first, from the shaft on or to the shaft.
        LastLamps y = Check.pit("places 5;out 0 1;way 3 4 1;way 2 3 1;way 1 2 1;way 0 1 1;");
        due("last of 4", y.last(4, 99, false), 95);
        due("open", y.open(95, 99, false), 31);
        due("soonest", y.soonest(4, 0, 0, 99, false), 4);
        due("soonest back", y.soonest(0, 4, 0, 99, false), 4);
    }

    // ---- 16
    private static void most() {
        LastLamps x = Check.pit("places 4;out 0 2;way 0 1 2 wide 1;way 0 2 1 fills 3;way 0 1 5;");
        for (int i = 0; i < 3; i++) x.man(1, false, true);
        for (int i = 0; i < 3; i++) x.man(2, false, true);
        x.man(0, true, false);
        x.man(3, true, false);
        // Minute 0: the man at the shaft; 1: two from 2; 2: one from 2, one from 1; then one a minute.
        int[] due = {1, 3, 5, 6, 7, 7};
        for (int t = 0; t < due.length; t++) due("most to " + t, x.most(t), due[t]);
        due("most to 60", x.most(60), 7);
        due("most to 61", x.most(61), OUTSIDE);
        due("most to -1", x.most(-1), OUTSIDE);
        x.fall(0, true);
        due("most by the long way", x.most(4), 4);
        due("two at 5", x.most(5), 6);
        due("the third at 6", x.most(6), 7);
        LastLamps y = Check.pit("places 2;out 0 9;way 0 1 2 wide 2 fills 3;");
        for (int i = 0; i < 8; i++) y.man(1, true, false);
        due("two at 2", y.most(2), 2);
        due("two more at 3", y.most(3), 4);
        due("it is full of water", y.most(60), 4);
        due("nobody", Check.pit(SMALL).most(60), 0);
        mostByGivingWay();
    }

    /** Where the man who is sent last comes up only if others go otherwise than they would. */
    private static void mostByGivingWay() {
        // Three at 1: by the way to 0 at 0, 1, 2; if one comes from 2 at 2, one must have gone by 4.
        LastLamps x = Check.pit("places 6;out 0 9;way 1 0 1 wide 1 fills 3;way 2 3 1;way 3 1 1;way 1 4 1 fills 1;way 4 5 1;way 5 0 1;");
        for (int i = 0; i < 3; i++) x.man(1, true, false);
        x.man(2, true, false);
        due("one goes by 4, so that none waits to 2", x.most(3), 4);
        x.fall(4, true);
        due("none can go by 4", x.most(3), 3);
        due("back along the waiting: 1 and 4, at minute 1", x.cut(3), 1 << 1 | 1 << 2 | 1 << 3 | 1 << 4);
        // 1 to 2 to 0 is the shortest, but then the one of 3 has no way: 1 goes by 4, 3 by 2.
        LastLamps y = Check.pit("places 6;out 0 9;way 1 2 1 wide 1 fills 1;way 2 0 1 wide 1 fills 2;way 1 4 1;way 4 5 1;way 5 0 1;way 3 2 1;");
        y.man(1, true, false);
        y.man(3, true, false);
        due("one gives way", y.most(3), 2);
        due("not in time", y.most(2), 1);
        due("all but the shaft", y.cut(2), 1 << 1 | 1 << 2 | 1 << 3 | 1 << 4 | 1 << 5);
    }

    // ---- 17
    private static void cut() {
        LastLamps x = Check.pit("places 5;out 0 1;way 0 1 2 wide 1;way 1 2 1 wide 1;way 3 4 1;");
        x.man(2, false, false);
        x.man(2, false, false);
        due("too soon for all", x.cut(2), 6);
        due("at 3 one is up", x.most(3), 1);
        due("at 3 the other stays, 1 is not full", x.cut(3), 6);
        due("at 4 all are up", x.cut(4), 0);
        x.man(3, true, false);
        due("one stays at 3", x.cut(60), 24);
        x.fall(2, true);
        due("4 is shut off", x.cut(60), 8);
        due("cut to 61", x.cut(61), OUTSIDE);
        due("cut to -1", x.cut(-1), OUTSIDE);
        due("nobody", Check.pit(SMALL).cut(0), 0);
        // The shaft is what is full: both wait at it, and so it is on the near side of the cut.
        LastLamps y = Check.pit("places 3;out 0 1;way 0 1 1;way 0 2 1;");
        for (int i = 0; i < 3; i++) y.man(1, true, false);
        due("lifted", y.most(2), 2);
        due("the shaft is full", y.cut(2), 7);
        due("2 is too far at 1", y.cut(1), 3);
        // The way into the shaft's place is full at the minutes that count, a detour is not in time.
        LastLamps z = Check.pit("places 3;out 0 9;way 0 1 1 wide 1;way 1 2 1;way 2 0 1 wide 1;");
        for (int i = 0; i < 4; i++) z.man(1, true, false);
        due("1 at 1, 1 and 1 at 2", z.most(2), 3);
        due("all but the shaft", z.cut(2), 6);
    }

    // ---- 18
    private static void up() {
        LastLamps x = Check.pit("places 4;out 0 1;way 0 1 3 dark 50;way 1 2 4;way 0 3 6 dark 10 fills 12;");
        x.man(2, true, true);
        x.man(2, true, false);
        x.man(2, true, false);
        x.man(2, false, false);
        x.man(3, true, true);
        x.man(3, true, false);
        x.man(0, true, false);
        due("no lamps: the shaft, one from 3", x.up(0, NONE), 2);
        due("of 3 in the dark", x.up(0, 3), 1);
        due("of 2 in the dark", x.up(7, 2), 0);
        due("of the shaft", x.up(0, 0), 1);
        x.lamp(2, 8);
        due("one lamp, one man, not slow", x.up(0, 2), 1);
        due("one lamp, two men, not slow", x.up(1, 2), 2);
        due("one lamp, three, one is slow: 8 and then 100", x.up(2, 2), 0);
        x.lamp(2, 20);
        due("two lamps: one each", x.up(0, 2), 2);
        due("two lamps: two, one who is slow", x.up(1, 2), 3);
        due("two lamps: all with the first", x.up(2, 2), 0);
        x.lamp(3, 12);
        due("not slow with the lamp, slow without", x.up(0, 3), 1);
        due("both with the lamp, both slow", x.up(1, 3), 2);
        due("in all", x.up(1, NONE), 6);
        x.moves(3, 2, true);
        due("a fourth man knows, with the second lamp and the slow one", x.up(1, 2), 4);
        due("of 1, nobody", x.up(0, 1), 0);
        due("k -1", x.up(-1, NONE), OUTSIDE);
        due("k 8", x.up(8, 0), OUTSIDE);
        due("k 8 at 4", x.up(8, 4), UNKNOWN);
        due("at -2", x.up(0, -2), UNKNOWN);
    }

    // ---- 19
    private static void lent() {
        LastLamps x = Check.pit("places 5;out 0 1;way 0 1 3 dark 5;way 1 2 4;way 1 3 2;way 0 3 20;");
        x.lamp(1, 30);
        due("nobody there", x.lent(0, 2), NONE);
        x.man(1, false, false);
        due("nobody who knows", x.lent(0, 2), NONE);
        x.man(1, true, true);
        due("he is slow: 8, 16, 22", x.lent(0, 2), 22);
        x.man(1, true, false);
        due("one is not: 4, 8, 11", x.lent(0, 2), 11);
        x.man(2, false, true);
        due("one there is slow: 4, 12, 18", x.lent(0, 2), 18);
        due("to where it is: one there is slow", x.lent(0, 1), 6);
        due("to the shaft", x.lent(0, 0), 3);
        due("nobody at 3: 2, 4, 7", x.lent(0, 3), 7);
        due("nobody comes to 4", x.lent(0, 4), NONE);
        x.lamp(1, 13);
        due("it lasts there, then dark and slow: 12, 22", x.lent(1, 2), 22);
        x.lamp(1, 11);
        due("it does not last back", x.lent(2, 2), NONE);
        due("lamp 3", x.lent(3, 0), UNKNOWN);
        due("lamp -1", x.lent(-1, 0), UNKNOWN);
        due("place 5", x.lent(0, 5), UNKNOWN);
    }

    // ---- 20
    private static void mark() {
        LastLamps x = Check.pit("places 4;out 0 1;way 0 1 3;way 1 2 4 dark 6;way 0 3 1 dark 1;");
        x.man(1, true, false);
        x.man(2, true, true);
        x.lamp(3, 9);
        due("nobody has it: at 1 it lights the man of 1", x.mark(0, 1, 0), 101);
        due("at 3 it lights nobody", x.mark(0, 3, 0), 100);
        due("at 0 it lights the last way, for one who is not slow", x.mark(0, 0, 0), 101);
        x.lamp(3, 14);
        due("to 14 both come: slow 8 and 6", x.mark(1, 1, 0), 102);
        x.lamp(3, 13);
        due("to 13 the slow one does not", x.mark(2, 1, 0), 101);
        x.lamp(1, 3);
        due("his own lamp, at his place: as before", x.mark(3, 1, 0), 100);
        due("his own lamp, far off", x.mark(3, 3, 0), 99);
        due("the mark changes nothing that stays", x.up(0, NONE), 1);
        due("lamp 4", x.mark(4, 0, 8), UNKNOWN);
        due("place 4", x.mark(0, 4, 8), UNKNOWN);
        due("k 8", x.mark(0, 0, 8), OUTSIDE);
        due("k -1", x.mark(0, 0, -1), OUTSIDE);
    }

    /** Star: 1, 2, 3 are 2, 3, 4 from the shaft 0 (as long in the dark), 3 by minute 20. */
    private static LastLamps star() {
        LastLamps x = Check.pit("places 8;out 0 1;way 0 1 2 dark 2;way 0 2 3 dark 3;way 0 3 4 dark 4 fills 20;way 0 4 5;");
        x.man(0, true, false);
        x.man(1, false, false);
        x.man(2, false, true);
        x.man(2, false, false);
        x.man(3, false, true);
        return x;
    }

    // ---- 21
    private static void tells() {
        LastLamps x = star();
        due("none", x.tells(0, NONE, 0, 0), 0);
        due("one", x.tells(0, NONE, 0, 2), 1);
        due("two at 2", x.tells(0, NONE, 0, 4), 2);
        due("slow, 8 back by 20", x.tells(0, NONE, 8, 8), 1);
        due("slow, 8 back too late", x.tells(0, NONE, 9, 8), 0);
        due("he is back by 20", x.tells(0, NONE, 12, 8), 0);
        due("he is not", x.tells(0, NONE, 13, 8), NONE);
        due("all, 3 first", x.tells(0, NONE, 8, 14), 4);
        due("all, 3 first and its man too late", x.tells(0, NONE, 12, 14), 3);
        due("all, not any more", x.tells(0, NONE, 13, 14), NONE);
        due("at 93 the slow one too, by 99", x.tells(0, NONE, 90, 4), 2);
        due("at 94 the slow one not", x.tells(0, NONE, 91, 4), 1);
        due("at 96 the other just so", x.tells(0, NONE, 93, 4), 1);
        x.moves(0, 4, true);
        due("he needs a light", x.tells(0, NONE, 0, 0), NONE);
        due("with a light", x.tells(0, 5, 0, 2), 1);
        due("bit of a place without such men", x.tells(0, 5, 0, 1), UNKNOWN);
        due("bit of no place", x.tells(0, 5, 0, 256), UNKNOWN);
        due("bit 31", x.tells(0, 5, 0, MIN), UNKNOWN);
        due("man 5", x.tells(5, 5, 0, 0), UNKNOWN);
        due("bits before minutes", x.tells(1, 5, 100, 1), UNKNOWN);
        due("at 100", x.tells(1, 5, 100, 0), OUTSIDE);
        due("at -1", x.tells(0, 5, -1, 0), OUTSIDE);
        due("light -2", x.tells(0, -2, 0, 0), OUTSIDE);
        due("light 100", x.tells(0, 100, 0, 0), OUTSIDE);
        due("he does not know", x.tells(1, 5, 0, 0), NOT);
        LastLamps y = sevenUntold(6);
        due("six such places", y.tells(0, 99, 0, 126), 6);
        LastLamps z = sevenUntold(7);
        due("seven such places", z.tells(0, 99, 0, 2), NOT);
        // He is slow; where he begins some do not know.
        LastLamps w = Check.pit(SMALL);
        w.man(1, true, true);
        w.man(1, false, false);
        w.man(2, false, false);
        due("told where he is", w.tells(0, 6, 0, 2), 1);
        due("slow to 2 and back in 22, those at 2 do not come", w.tells(0, 22, 0, 6), 1);
        due("the light ends too soon for a slow man", w.tells(0, 15, 0, 4), NONE);
    }

    private static LastLamps sevenUntold(int n) {
        StringBuilder text = new StringBuilder("places 8;out 0 1;");
        for (int i = 1; i < 8; i++) text.append("way 0 ").append(i).append(" 1 dark 1;");
        LastLamps x = Check.pit(text.toString());
        x.man(0, true, false);
        for (int i = 1; i <= n; i++) x.man(i, false, false);
        return x;
    }

    // ---- 22
    private static void toldBest() {
        LastLamps x = star();
        due("best set", x.toldBest(0, NONE, 0, 0), 14);
        due("best", x.toldBest(0, NONE, 0, 1), 4);
        due("3 is not worth it: the least set", x.toldBest(0, NONE, 10, 0), 6);
        due("best at 10", x.toldBest(0, NONE, 10, 1), 3);
        due("nobody is up at 99", x.toldBest(0, NONE, 99, 0), 0);
        due("nobody is up at 99", x.toldBest(0, NONE, 99, 1), 0);
        x.moves(0, 4, true);
        due("he comes not up", x.toldBest(0, NONE, 0, 0), NONE);
        due("he comes not up", x.toldBest(0, NONE, 0, 1), NONE);
        due("what 2", x.toldBest(1, 5, 0, 2), OUTSIDE);
        due("what -1", x.toldBest(1, 5, 0, -1), OUTSIDE);
        due("at 100", x.toldBest(1, 5, 100, 0), OUTSIDE);
        due("light 100", x.toldBest(1, 100, 0, 0), OUTSIDE);
        due("does not know", x.toldBest(1, 5, 0, 0), NOT);
        due("man -1", x.toldBest(-1, 100, 0, 0), UNKNOWN);
        due("six", sevenUntold(6).toldBest(0, 0, 0, 0), 126);
        due("seven", sevenUntold(7).toldBest(0, 0, 0, 0), NOT);
    }

    // ---- 23
    private static void byTwo() {
        LastLamps x = star();
        x.man(0, true, false);
        due("first set, the least", x.byTwo(0, NONE, 5, NONE, 0, 0), 0);
        due("second set", x.byTwo(0, NONE, 5, NONE, 0, 1), 14);
        due("together", x.byTwo(0, NONE, 5, NONE, 0, 2), 4);
        // At 88 one can tell 1 and 2 (2, 4, 7, 10, and 6 for the slow one): 99 is late; two can.
        due("at 90 by one", x.toldBest(0, NONE, 90, 1), 2);
        due("at 90 the first", x.byTwo(0, NONE, 5, NONE, 90, 0), 2);
        due("at 90 the second", x.byTwo(0, NONE, 5, NONE, 90, 1), 4);
        due("at 90 both", x.byTwo(0, NONE, 5, NONE, 90, 2), 3);
        due("the lights are their own", x.byTwo(0, 99, 5, NONE, 0, 2), 4);
        x.moves(5, 4, true);
        due("the second is not up", x.byTwo(0, NONE, 5, NONE, 0, 2), NONE);
        due("the second is not up", x.byTwo(0, NONE, 5, NONE, 0, 0), NONE);
        due("the second has a light", x.byTwo(0, NONE, 5, 5, 0, 2), 4);
        due("the first has a light", x.byTwo(5, 5, 0, NONE, 0, 2), 4);
        due("the first has none", x.byTwo(5, NONE, 0, 5, 0, 1), NONE);
        due("one twice", x.byTwo(0, 100, 0, NONE, 0, 0), UNKNOWN);
        due("man 6", x.byTwo(0, 100, 6, NONE, 0, 0), UNKNOWN);
        due("man -1", x.byTwo(-1, NONE, 0, NONE, 0, 0), UNKNOWN);
        due("light 100", x.byTwo(0, 100, 1, NONE, 0, 0), OUTSIDE);
        due("other light 100", x.byTwo(0, 0, 1, 100, 0, 0), OUTSIDE);
        due("at 100", x.byTwo(0, 0, 1, 0, 100, 0), OUTSIDE);
        due("what 3", x.byTwo(0, 0, 1, 0, 0, 3), OUTSIDE);
        due("what -1", x.byTwo(0, 0, 1, 0, 0, -1), OUTSIDE);
        due("the second does not know", x.byTwo(0, 0, 1, 0, 0, 0), NOT);
        due("the first does not know", x.byTwo(1, 0, 0, 0, 0, 0), NOT);
        // The second can but come up, by the minute at which the ways to 1 and 2 fill.
        LastLamps z = Check.pit("places 4;out 0 1;way 0 1 1 dark 1 fills 4;way 0 2 1 dark 1 fills 4;way 0 3 4 dark 4;");
        z.man(0, true, false);
        z.man(3, true, false);
        z.man(1, false, false);
        z.man(2, false, false);
        due("all by the first", z.byTwo(0, NONE, 1, NONE, 0, 0), 6);
        due("none by the second", z.byTwo(0, NONE, 1, NONE, 0, 1), 0);
        due("none by the first", z.byTwo(1, NONE, 0, NONE, 0, 0), 0);
        due("all by the second", z.byTwo(1, NONE, 0, NONE, 0, 1), 6);
        LastLamps y = sevenUntold(6);
        y.man(0, true, false);
        due("six", y.byTwo(0, 0, 7, 0, 0, 2), 6);
        y.moves(7, 7, false);
        due("he does not know any more", y.byTwo(0, 0, 7, 0, 0, 2), NOT);
    }

    // ---- 24
    private static void tooLate() {
        LastLamps x = star();
        due("for 1: 2 and 2 by 99", x.tooLate(0, NONE, 1), 96);
        due("for 3: 4 and 4 by 20", x.tooLate(0, NONE, 3), 13);
        x.moves(1, 0, false);
        due("for the shaft: always", x.tooLate(0, NONE, 0), 100);
        due("nobody at 1 any more", x.tooLate(0, NONE, 1), UNKNOWN);
        x.moves(1, 4, false);
        due("for 4 in the dark: from the first", x.tooLate(0, NONE, 4), 0);
        due("for 4, light to 10", x.tooLate(0, 10, 4), 1);
        due("for 4, light to 9", x.tooLate(0, 9, 4), 0);
        due("place 8", x.tooLate(0, 100, 8), UNKNOWN);
        due("place -1", x.tooLate(0, 100, -1), UNKNOWN);
        due("man 5", x.tooLate(5, 100, 4), UNKNOWN);
        due("light 100", x.tooLate(1, 100, 4), OUTSIDE);
        due("light -2", x.tooLate(1, -2, 4), OUTSIDE);
        due("does not know", x.tooLate(1, 9, 4), NOT);
        due("seven", sevenUntold(7).tooLate(0, 9, 1), NOT);
    }

    // ---- 25, 26
    private static void goAndClear() {
        LastLamps x = Check.pit(SMALL);
        due("clear", x.clear(), 0);
        due("go 4", x.go(4), UNKNOWN);
        due("go -1", x.go(-1), UNKNOWN);
        for (int i = 1; i <= 12; i++) due("go", x.go(i % 4), i);
        due("a thirteenth", x.go(0), FULL);
        due("a thirteenth, nowhere", x.go(4), UNKNOWN);
        due("clear", x.clear(), 12);
        due("clear again", x.clear(), 0);
        due("go", x.go(0), 1);
    }

    // ---- 27
    private static void judge() {
        LastLamps x = Check.pit("places 3;out 0 1;way 0 1 3 dark 9;way 0 1 4 dark 5;way 1 2 2 fills 30;");
        x.man(2, false, false);
        x.man(2, false, true);
        x.man(1, true, false);
        due("empty", x.judge(0, 7, 50, 0), 0);
        due("empty, the minute", x.judge(0, 7, 50, 1), 7);
        x.go(2);
        due("one place", x.judge(0, 7, 50, 0), NONE);
        due("one place, the minute", x.judge(0, 7, 50, 1), 7);
        due("begins elsewhere", x.judge(2, 7, 50, 0), 0);
        due("begins elsewhere, the minute", x.judge(2, 7, 50, 1), 7);
        x.go(1);
        x.go(0);
        x.go(1);
        due("to its end", x.judge(0, 0, 50, 0), NONE);
        due("to its end: 2, 5, 8", x.judge(0, 0, 50, 1), 8);
        due("as slow as he is: 4, 10, 16", x.judge(1, 0, 50, 1), 16);
        due("light to 5, then by the other way", x.judge(0, 0, 5, 1), 10);
        due("no light", x.judge(0, 0, NONE, 0), 1);
        due("no light, where he is", x.judge(0, 3, NONE, 1), 3);
        due("too late for the first", x.judge(0, 29, 99, 0), 1);
        x.go(1);
        due("no way from 1 to 1", x.judge(0, 0, 50, 0), 4);
        due("where it is wrong", x.judge(0, 0, 50, 1), 8);
        x.fall(0, true);
        x.fall(1, true);
        due("fallen", x.judge(0, 0, 50, 0), 2);
        due("fallen, where", x.judge(0, 0, 50, 1), 2);
        due("man 3", x.judge(3, 100, 0, 0), UNKNOWN);
        due("at 100", x.judge(0, 100, 0, 0), OUTSIDE);
        due("at -1", x.judge(0, -1, 0, 0), OUTSIDE);
        due("light 100", x.judge(0, 0, 100, 0), OUTSIDE);
        due("light -2", x.judge(0, 0, -2, 0), OUTSIDE);
        due("what 2", x.judge(0, 0, 0, 2), OUTSIDE);
        due("what -1", x.judge(0, 0, 0, -1), OUTSIDE);
    }

    // ---- 28, 29
    private static void opensAndSafe() {
        LastLamps x = Check.pit("places 3;out 0 1;way 0 1 2 bad 1;way 0 1 2 bad 500;way 1 2 1 dark 3 bad 999;way 0 2 9;");
        due("opens at 0", x.opens(2, 0), 1000000);
        due("opens at 1", x.opens(2, 1), 1000);
        due("opens at 2", x.opens(2, 2), 1);
        due("opens at 3, cut", x.opens(2, 3), 0);
        due("opens at 2, cut each time", x.opens(0, 2), 998001);
        due("opens at 3, cut each time", x.opens(0, 3), 997002);
        due("never bad", x.opens(3, 99), 1000000);
        due("way 4", x.opens(4, 100), UNKNOWN);
        due("way -1", x.opens(-1, 0), UNKNOWN);
        due("at 100", x.opens(0, 100), OUTSIDE);
        due("at -1", x.opens(0, -1), OUTSIDE);
        due("empty", x.safe(0, 50), NOT);
        due("empty at 100", x.safe(100, 50), OUTSIDE);
        x.go(2);
        due("one place", x.safe(99, NONE), 1000000);
        x.go(1);
        due("through at 1", x.safe(0, 50), 1000);
        due("in the dark through at 3", x.safe(0, NONE), 0);
        x.go(0);
        due("1000 times opens(0, 3), cut: of like ways the least", x.safe(0, 50), 997);
        due("wrong in the dark", x.safe(0, NONE), NOT);
        x.fall(0, true);
        due("the other way", x.safe(0, 50), 125);
        due("wrong at some step", x.safe(97, 99), NOT);
        due("at -1", x.safe(-1, 50), OUTSIDE);
        due("light 100", x.safe(0, 100), OUTSIDE);
        due("light -2", x.safe(0, -2), OUTSIDE);
    }

    // ---- 30
    private static void safest() {
        LastLamps x = Check.pit("places 4;out 0 1;way 0 1 1 bad 500;way 0 1 2 bad 1;way 1 2 1 dark 2 bad 100;way 2 0 1 dark 1 bad 100;");
        due("by 2: 0.9 and 0.81", x.safest(1, 0, 50), 729000);
        due("by 2 in the dark: 0.81 and 0.729", x.safest(1, 0, NONE), 590490);
        x.fall(3, true);
        due("the way that is through first, not the safer one", x.safest(1, 0, 50), 500000);
        x.fall(0, true);
        due("the safer one", x.safest(1, 0, 50), 998001);
        due("at the shaft", x.safest(0, 99, NONE), 1000000);
        due("no such row", x.safest(3, 0, 50), 0);
        due("not in the dark", x.safest(1, 0, NONE), 0);
        due("not in time", x.safest(1, 98, 99), 0);
        due("place 4", x.safest(4, 100, 0), UNKNOWN);
        due("at 100", x.safest(0, 100, 0), OUTSIDE);
        due("at -1", x.safest(0, -1, 0), OUTSIDE);
        due("light 100", x.safest(0, 0, 100), OUTSIDE);
        due("light -2", x.safest(0, 0, -2), OUTSIDE);
        StringBuilder text = new StringBuilder("places 8;out 7 1;");
        for (int i = 0; i < 7; i++) text.append("way ").append(i).append(' ').append(i + 1).append(" 1;");
        LastLamps y = Check.pit(text.toString());
        due("seven places", y.safest(1, 0, 50), 1000000);
        due("eight places", y.safest(0, 0, 50), 0);
    }

    // ---- 31
    private static void knock() {
        LastLamps x = Check.pit("places 6;out 0 1;way 0 1 9;way 1 2 9;way 2 3 9 fills 0;way 0 3 30;way 0 4 1;");
        x.man(0, false, true);
        x.man(1, false, false);
        x.man(2, false, false);
        x.man(2, true, false);
        x.man(5, false, false);
        due("from 0: 1000, 333, 110", x.knock(0, 333), 1443);
        due("from 4: 333, 110, 36: cut each time", x.knock(4, 333), 479);
        due("from 3: one way to 2 and to 0", x.knock(3, 500), 500 + 500 + 250);
        due("from 5: nobody else", x.knock(5, 1000), 1000);
        due("r 0", x.knock(2, 0), 1000);
        due("r 1000", x.knock(4, 1000), 3000);
        x.fall(1, true);
        due("fallen: 0 at one, 1 at two, 2 at three", x.knock(4, 500), 500 + 250 + 125);
        x.fall(2, true);
        due("fallen: 2 hears nothing", x.knock(4, 500), 500 + 250);
        due("place 6", x.knock(6, 1001), UNKNOWN);
        due("r 1001", x.knock(0, 1001), OUTSIDE);
        due("r -1", x.knock(0, -1), OUTSIDE);
    }

    // ---- 32, 33
    private static void images() {
        LastLamps x = Check.pit(SMALL);
        due("keep 2", x.keep(2), UNKNOWN);
        due("keep -1", x.keep(-1), UNKNOWN);
        due("goBack 2", x.goBack(2), UNKNOWN);
        due("goBack -1", x.goBack(-1), UNKNOWN);
        due("not kept", x.goBack(1), NOT);
        due("keep nobody", x.keep(0), 1);
        x.man(1, false, true);
        x.lamp(2, 50);
        x.fall(1, true);
        x.go(3);
        due("keep", x.keep(1), 1);
        x.moves(0, 2, true);
        x.man(3, true, false);
        x.lamp(3, 9);
        x.fall(1, false);
        x.fall(0, true);
        x.go(2);
        due("back", x.goBack(1), 1);
        int[] counts = {4, 2, 1, 1, 2, 0, 0, 2, 0};
        for (int i = 0; i < counts.length; i++) due("back to " + i, x.count(i), counts[i]);
        due("back to place 1", x.told(0, 0), 1);
        due("back to slow", x.told(0, 2), 1);
        due("back to the lamp", x.light(0, 1), 50);
        due("0 is not fallen", x.way(0, 7), 0);
        due("1 is fallen", x.way(1, 7), 1);
        x.moves(0, 0, true);
        due("an image stays as it was kept", x.goBack(1), 1);
        due("back to place 1", x.told(0, 0), 1);
        due("back to nobody", x.goBack(0), 1);
        due("nobody", x.count(2), 0);
        due("nothing fallen", x.way(1, 7), 0);
        due("keep over it", x.keep(1), 1);
        due("back to it", x.goBack(1), 1);
        due("still nobody", x.count(2), 0);
    }

    /** Every call that asks for a place, a man or a lamp, where there is none. */
    private static void withoutPit() {
        LastLamps x = new LastLamps();
        due("way", x.way(0, 9), UNKNOWN);
        due("fall", x.fall(0, true), UNKNOWN);
        due("lamp", x.lamp(0, 100), UNKNOWN);
        due("told", x.told(0, 9), UNKNOWN);
        due("light", x.light(0, 9), UNKNOWN);
        due("moves", x.moves(0, 0, true), UNKNOWN);
        due("soonest", x.soonest(0, 0, 0, 0, true), UNKNOWN);
        due("last", x.last(0, 0, true), UNKNOWN);
        due("open", x.open(0, 99, false), 0);
        due("open at 100", x.open(100, 99, false), OUTSIDE);
        due("most", x.most(0), NOT);
        due("most to 61", x.most(61), OUTSIDE);
        due("cut", x.cut(60), NOT);
        due("cut to 61", x.cut(61), OUTSIDE);
        due("up", x.up(7, NONE), NOT);
        due("up with 8", x.up(8, NONE), OUTSIDE);
        due("up at 0", x.up(8, 0), UNKNOWN);
        due("lent", x.lent(0, 0), UNKNOWN);
        due("mark", x.mark(0, 0, 0), UNKNOWN);
        due("tells", x.tells(0, 0, 0, 0), UNKNOWN);
        due("toldBest", x.toldBest(0, 0, 0, 0), UNKNOWN);
        due("byTwo", x.byTwo(0, 0, 1, 0, 0, 0), UNKNOWN);
        due("tooLate", x.tooLate(0, 0, 0), UNKNOWN);
        due("go", x.go(0), UNKNOWN);
        due("clear", x.clear(), 0);
        due("judge", x.judge(0, 0, 0, 0), UNKNOWN);
        due("opens", x.opens(0, 0), UNKNOWN);
        due("safe", x.safe(0, 0), NOT);
        due("safest", x.safest(0, 0, 0), UNKNOWN);
        due("knock", x.knock(0, 0), UNKNOWN);
        due("keep", x.keep(0), 1);
        due("goBack", x.goBack(0), 1);
    }
}
