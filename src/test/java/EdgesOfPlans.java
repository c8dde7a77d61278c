/** Plans, chances, knocking, images: promises 25 to 33. */
final class EdgesOfPlans extends EdgesPart {
    EdgesOfPlans(Edges edges) {
        super(edges);
    }

    @Override
    void look() {
        firstIsHisOwn();
        wrongStep();
        severalWays();
        go();
        clear();
        judge();
        openSaid();
        safeSaid();
        safestSaid();
        opens();
        safe();
        safest();
        knockSaid();
        knock();
        imagesSaid();
        keep();
        goBack();
    }

    private static LastLamps row(String text, int... places) {
        LastLamps x = Check.pit(text);
        for (int p : places) x.go(p);
        return x;
    }

    // ---- plans

    private void firstIsHisOwn() {
        says("A PLAN of a MAN is a row of PLACES (THE ROW, 12 at most), the first one his own, walked from minute t with a light to E:");
        LastLamps x = row("places 2;out 0 1;way 0 1 5 dark 8;", 0, 1, 0, 1, 0, 1, 0, 1, 0, 1, 0, 1);
        x.man(0, true, false);
        x.man(1, true, false);
        x.man(0, true, true);
        due("twelve places", x.count(4), 12);
        due("a thirteenth", x.go(0), FULL);
        due("eleven steps, with a light", x.judge(0, 0, 99, 1), 55);
        due("none wrong", x.judge(0, 0, 99, 0), NONE);
        due("from 44 on", x.judge(0, 44, 99, 1), 99);
        due("from 45 on the eleventh is wrong", x.judge(0, 45, 99, 0), 11);
        due("where it is wrong", x.judge(0, 45, 99, 1), 95);
        due("in the dark", x.judge(0, 11, NONE, 1), 99);
        due("in the dark, a minute later", x.judge(0, 12, NONE, 0), 11);
        due("with a light to 5", x.judge(0, 0, 5, 1), 85);
        due("slow", x.judge(2, 0, 99, 0), 10);
        due("slow, where it is wrong", x.judge(2, 0, 99, 1), 90);
        due("not his own", x.judge(1, 0, 99, 0), 0);
    }

    private void wrongStep() {
        says("WRONG at the first step where there is no WAY to the next PLACE, or it cannot be gone then;");
        LastLamps x = row(LINE, 2, 1, 0, 3, 0);
        x.man(2, false, false);
        due("no way from 0 to 3", x.judge(0, 0, 99, 0), 3);
        due("he is there at 9", x.judge(0, 0, 99, 1), 9);
        due("from 51 on", x.judge(0, 51, 99, 0), 3);
        due("from 52 on the second is not through by 60", x.judge(0, 52, 99, 0), 2);
        due("where he is", x.judge(0, 52, 99, 1), 56);
        due("from 96 on the first is not through by 99", x.judge(0, 96, 99, 0), 1);
        due("where he is", x.judge(0, 96, 99, 1), 96);
        due("no light for the first", x.judge(0, 0, 3, 0), 1);
        due("a light just for the first", x.judge(0, 0, 4, 0), 3);
        due("the second in the dark", x.judge(0, 0, 4, 1), 12);
        x.fall(0, true);
        due("fallen", x.judge(0, 0, 99, 0), 2);
        LastLamps y = row(LINE, 1, 1);
        y.man(1, true, false);
        due("no way from 1 to 1", y.judge(0, 0, 99, 0), 1);
        LastLamps z = row(LINE, 2, 0);
        z.man(2, true, false);
        due("no way from 2 to 0 but by 1", z.judge(0, 0, 99, 0), 1);
    }

    private void severalWays() {
        says("of several WAYS it takes that which is through first (of like ones the least).");
        String text = "places 2;out 0 1;way 0 1 9 dark 9 bad 1;way 1 0 5 dark 12 bad 2;way 0 1 5 dark 10 bad 3;way 0 1 4 fills 10 bad 4;";
        LastLamps x = row(text, 1, 0);
        x.man(1, true, false);
        due("the fourth", x.judge(0, 0, 99, 1), 4);
        due("the fourth by 10", x.judge(0, 6, 99, 1), 10);
        due("the second or third", x.judge(0, 7, 99, 1), 12);
        due("the first, in the dark", x.judge(0, 7, 11, 1), 16);
        due("the fourth's chance", x.safe(0, 99), x.opens(3, 4));
        due("of like ones the least: the second's chance", x.safe(7, 99), x.opens(1, 12));
        due("the first's chance", x.safe(7, NONE), x.opens(0, 16));
        x.fall(1, true);
        due("the third's chance", x.safe(7, 99), x.opens(2, 12));
    }

    private void go() {
        plain("## Promise 25: go");
        says("`int go(int p)`: A PLACE comes behind THE ROW: how many it has. UNKNOWN, FULL.");
        LastLamps x = Check.pit(LINE);
        for (int p : NO_PLACES) due("to " + p, x.go(p), UNKNOWN);
        due("none yet", x.count(4), 0);
        for (int i = 1; i <= 12; i++) due("the place " + i, x.go(i % 4), i);
        for (int p = 0; p < 4; p++) due("a thirteenth", x.go(p), FULL);
        for (int p : NO_PLACES) due("a thirteenth, to " + p, x.go(p), UNKNOWN);
        due("twelve", x.count(4), 12);
        due("no pit", new LastLamps().go(0), UNKNOWN);
    }

    private void clear() {
        plain("## Promise 26: clear");
        says("`int clear()`: THE ROW is empty: how many it had.");
        LastLamps x = Check.pit(LINE);
        due("it was empty", x.clear(), 0);
        x.go(2);
        due("one", x.clear(), 1);
        due("it is empty", x.count(4), 0);
        due("nothing to walk", x.safe(0, 99), NOT);
        for (int i = 0; i < 12; i++) x.go(2);
        due("twelve", x.clear(), 12);
        due("again", x.clear(), 0);
        due("the first again", x.go(3), 1);
        due("no pit", new LastLamps().clear(), 0);
    }

    private void judge() {
        plain("## Promise 27: judge");
        says("`int judge(int m, int t, int end, int what)`: THE ROW as a PLAN of a MAN (as SLOW as he is) from minute t with a light to E: what = 0 the first step (1 and on) at which it is WRONG (NONE; 0: it begins elsewhere, or is empty), 1 the minute at which he is at its end, or where it is WRONG (t, if what 0 is 0). UNKNOWN, OUTSIDE.");
        LastLamps x = Check.pit(LINE);
        x.man(2, false, false);
        x.man(2, true, true);
        x.man(1, true, false);
        due("empty", x.judge(0, 33, 99, 0), 0);
        due("empty, at 33", x.judge(0, 33, 99, 1), 33);
        x.go(2);
        due("one place, none is wrong", x.judge(0, 99, 0, 0), NONE);
        due("he is at its end at 99", x.judge(0, 99, 0, 1), 99);
        due("elsewhere", x.judge(2, 44, 99, 0), 0);
        due("elsewhere, at 44", x.judge(2, 44, 99, 1), 44);
        x.go(1);
        x.go(0);
        due("at its end", x.judge(0, 0, 99, 1), 9);
        due("slow at its end", x.judge(1, 0, 99, 1), 18);
        due("slow, not by 60", x.judge(1, 43, 99, 0), 2);
        due("slow, where it is wrong", x.judge(1, 43, 99, 1), 51);
        due("slow, the light must last for all", x.judge(1, 0, 7, 0), 1);
        due("no light", x.judge(0, 5, NONE, 0), 1);
        due("no light, the minute", x.judge(0, 5, NONE, 1), 5);
        int[] ms = {-1, 3, 8, MIN, MAX}, whats = {-1, 2, MIN, MAX};
        for (int m : ms) due("man " + m, x.judge(m, 0, 0, 0), UNKNOWN);
        for (int t : NO_MINUTES) due("at " + t, x.judge(0, t, 0, 0), OUTSIDE);
        for (int e : NO_LIGHTS) due("light to " + e, x.judge(0, 0, e, 0), OUTSIDE);
        for (int w : whats) due("what " + w, x.judge(0, 0, 0, w), OUTSIDE);
        for (int w : whats) due("elsewhere, what " + w, x.judge(2, 0, 0, w), OUTSIDE);
        due("man 3 at 100", x.judge(3, 100, 0, 0), UNKNOWN);
    }

    // ---- chances

    private void openSaid() {
        says("OPEN, of a MILLION: that a WAY is not bad at minute t: t times (1000 less C) / 1000, cut each time, from a MILLION.");
        LastLamps x = Check.pit("places 2;out 0 1;way 0 1 9 bad 1;way 0 1 9 bad 333;way 0 1 9 bad 999;way 0 1 9;");
        int[][] due = {{1000000, 999000, 998001, 997002, 996004}, {1000000, 667000, 444889, 296740, 197925},
            {1000000, 1000, 1, 0, 0}, {1000000, 1000000, 1000000, 1000000, 1000000}};
        for (int k = 0; k < 4; k++) for (int t = 0; t < 5; t++) due("way " + k + " at " + t, x.opens(k, t), due[k][t]);
        int[] bad = {1, 333, 999};
        for (int k = 0; k < 3; k++) {
            long open = 1000000;
            for (int t = 0; t < 100; t++) {
                due("way " + k + " at " + t, x.opens(k, t), open);
                open = open * (1000 - bad[k]) / 1000;
            }
        }
        due("never bad", x.opens(3, 99), 1000000);
        x.fall(3, true);
        due("fallen, but not bad", x.opens(3, 99), 1000000);
    }

    private void safeSaid() {
        says("SAFE is a WALK along THE ROW by: that each WAY is open when one is through it: the product, each cut / MILLION.");
        LastLamps x = row("places 4;out 0 1;way 3 2 1 bad 333;way 2 1 2 bad 1;way 1 0 1 bad 77;", 3, 2, 1, 0);
        // 667000; opens(1, 3) = 997002; opens(2, 4) = 725782: 665000.334, 482645.03.
        due("opens(1, 3)", x.opens(1, 3), 997002);
        due("opens(2, 4)", x.opens(2, 4), 725782);
        due("667000 times 997002 and 725782, each cut", x.safe(0, 99), 482645);
        x.clear();
        x.go(3);
        due("no way at all", x.safe(0, 99), 1000000);
        x.go(2);
        due("one way, through at 1", x.safe(0, 99), 667000);
        due("through at 2", x.safe(1, 99), 444889);
        due("through at 99", x.safe(98, 99), x.opens(0, 99));
        due("not through by 99", x.safe(99, 99), NOT);
        // There and back: the way counts twice, at 1 and at 2.
        x.go(3);
        due("there and back", x.safe(0, 99), 667000L * 444889 / 1000000);
    }

    private void safestSaid() {
        says("SAFEST: of all rows of unlike PLACES (7 at most) from one to the shaft that can be WALKED so from minute t with a light to E, not SLOW, the greatest SAFE.");
        StringBuilder chain = new StringBuilder("places 9;out 0 1;");
        for (int i = 0; i < 8; i++) chain.append("way ").append(i).append(' ').append(i + 1).append(" 1 dark 2 bad 1;");
        LastLamps x = Check.pit(chain.toString());
        due("seven places", x.safest(6, 0, 99) > 0 ? 1 : 0, 1);
        due("eight places", x.safest(7, 0, 99), 0);
        due("nine places", x.safest(8, 0, 99), 0);
        due("one place", x.safest(0, 0, 99), 1000000);
        due("two places", x.safest(1, 0, 99), 999000);
        due("two places in the dark", x.safest(1, 0, NONE), 998001);
        due("from 98", x.safest(1, 98, 99), x.opens(0, 99));
        due("from 99 not through", x.safest(1, 99, 99), 0);
        due("seven places in the dark by 99", x.safest(6, 87, NONE) > 0 ? 1 : 0, 1);
        due("seven places in the dark by 100", x.safest(6, 88, NONE), 0);
        // The short way is worse than the long one; it is by 3 and 2, that fills at 6.
        LastLamps y = Check.pit("places 4;out 0 1;way 1 0 1 bad 500;way 1 2 2 fills 6;way 2 3 1;way 3 0 1 bad 9;");
        due("the long way, through at 4", y.safest(1, 0, 99), y.opens(3, 4));
        due("the long way from 4, through at 8", y.safest(1, 4, 99), y.opens(3, 8));
        due("the short way from 5", y.safest(1, 5, 99), y.opens(0, 6));
        due("the short way with a light to 1", y.safest(1, 0, 1), 500000);
        due("no way in the dark", y.safest(1, 0, NONE), 0);
        // Of two ways the row goes by that which is through first.
        LastLamps z = Check.pit("places 2;out 0 1;way 0 1 2 bad 1;way 0 1 1 bad 500;");
        due("through first, not the safer one", z.safest(1, 0, 99), 500000);
        // At 1 the bad way is through first, to minute 2; who came again to 1 would go by the good one.
        LastLamps u = Check.pit("places 4;out 0 1;way 1 0 1 fills 2 bad 900;way 1 0 2;way 1 2 1;way 3 1 1;");
        due("unlike places: not to the first again", u.safest(1, 0, 99), 100000);
        due("from 1 a minute later", u.safest(1, 1, 99), 10000);
        due("the good way later", u.safest(1, 2, 99), 1000000);
        due("unlike places: not to the second again", u.safest(3, 0, 99), 10000);
        due("not to the shaft again", u.safest(0, 0, 99), 1000000);
        LastLamps w = Check.pit("places 3;out 0 1;way 1 2 1;way 0 2 1 bad 999;way 1 0 30 bad 999;");
        due("all rows are as good as none", w.safest(1, 9, 99), 0);
    }

    private void opens() {
        plain("## Promise 28: opens");
        says("`int opens(int k, int t)`: OPEN. UNKNOWN, OUTSIDE (t 0 .. 99).");
        LastLamps x = Check.pit("places 2;out 0 1;way 0 1 9 bad 500;");
        due("at 0", x.opens(0, 0), 1000000);
        due("at 19", x.opens(0, 19), 1);
        due("at 20", x.opens(0, 20), 0);
        due("at 99", x.opens(0, 99), 0);
        int[] ks = {-1, 1, 24, MIN, MAX};
        for (int k : ks) {
            due("way " + k, x.opens(k, 0), UNKNOWN);
            due("way " + k + " at 100", x.opens(k, 100), UNKNOWN);
        }
        for (int t : NO_MINUTES) due("at " + t, x.opens(0, t), OUTSIDE);
    }

    private void safe() {
        plain("## Promise 29: safe");
        says("`int safe(int t, int end)`: SAFE along THE ROW, not SLOW. OUTSIDE, NOT: it is WRONG at some step, or empty.");
        LastLamps x = Check.pit(LINE);
        due("empty", x.safe(0, 0), NOT);
        for (int t : NO_MINUTES) due("empty, at " + t, x.safe(t, 0), OUTSIDE);
        for (int e : NO_LIGHTS) due("empty, light to " + e, x.safe(0, e), OUTSIDE);
        x.go(2);
        due("one place", x.safe(99, NONE), 1000000);
        x.go(1);
        x.go(0);
        due("not slow: by 60", x.safe(51, 99), 1000000);
        due("wrong at the second", x.safe(52, 99), NOT);
        due("wrong at the first", x.safe(0, NONE), NOT);
        x.go(3);
        due("wrong at the last", x.safe(0, 99), NOT);
        for (int t : NO_MINUTES) due("wrong, at " + t, x.safe(t, 0), OUTSIDE);
        due("no pit", new LastLamps().safe(0, 0), NOT);
        due("no pit, at 100", new LastLamps().safe(100, 0), OUTSIDE);
    }

    private void safest() {
        plain("## Promise 30: safest");
        says("`int safest(int p, int t, int end)`: SAFEST from a PLACE; 0: there is no such row. UNKNOWN, OUTSIDE.");
        LastLamps x = Check.pit(LINE);
        due("from the shaft at 99", x.safest(0, 99, NONE), 1000000);
        due("from 2", x.safest(2, 51, 99), 1000000);
        due("from 2, not by 60", x.safest(2, 52, 99), 0);
        due("from 2, no light", x.safest(2, 0, NONE), 0);
        due("from 3, no way", x.safest(3, 0, 99), 0);
        for (int p : NO_PLACES) {
            due("from " + p, x.safest(p, 0, 0), UNKNOWN);
            due("from " + p + " at 100", x.safest(p, 100, 0), UNKNOWN);
        }
        for (int t : NO_MINUTES) due("at " + t, x.safest(0, t, 0), OUTSIDE);
        for (int e : NO_LIGHTS) due("light to " + e, x.safest(0, 0, e), OUTSIDE);
    }

    // ---- knocking

    private void knockSaid() {
        says("KNOCKING from a PLACE: heard there by a thousand, at PLACES one WAY away (not FALLEN) by r of a thousand, two WAYS by r times r / 1000, and so on, by the fewest:");
        StringBuilder chain = new StringBuilder("places 12;out 0 1;");
        for (int i = 0; i < 11; i++) chain.append("way ").append(i + 1).append(' ').append(i).append(" 30;");
        LastLamps x = Check.pit(chain.toString());
        x.man(0, false, false);
        int[] heard = {1000, 777, 603, 468, 363, 282, 219, 170, 132, 102, 79, 61};
        for (int p = 0; p < 12; p++) due(p + " ways away", x.knock(p, 777), heard[p]);
        for (int p = 0; p < 12; p++) due(p + " ways away by a thousand", x.knock(p, 1000), 1000);
        for (int p = 0; p < 12; p++) due(p + " ways away by none", x.knock(p, 0), p == 0 ? 1000 : 0);
        for (int p = 0; p < 12; p++) due(p + " ways away by one", x.knock(p, 1), p == 0 ? 1000 : p == 1 ? 1 : 0);
        x.fall(5, true);
        for (int p = 0; p < 12; p++) due(p + " ways away, one has fallen", x.knock(p, 777), p < 6 ? heard[p] : 0);
        // By the fewest ways, however long they are and whether they are full of water or not.
        LastLamps y = Check.pit("places 4;out 0 1;way 0 1 1;way 1 2 1;way 2 3 1;way 0 3 30 fills 0 bad 999;");
        y.man(3, false, false);
        due("one way", y.knock(0, 500), 500);
        y.fall(3, true);
        due("three ways", y.knock(0, 500), 125);
        says("of those who do not KNOW the mean of how many hear, in thousandths.");
        y.man(3, true, false);
        due("who knows does not count", y.knock(0, 500), 125);
        y.man(0, false, true);
        due("who is there, and slow", y.knock(0, 500), 1125);
        y.man(3, false, false);
        due("two at 3", y.knock(0, 500), 1250);
        for (int m = 0; m < 4; m++) y.moves(m, 1, false);
        for (int m = 4; m < 8; m++) y.man(1, false, false);
        due("eight hear it at their place", y.knock(1, 0), 8000);
        due("eight hear it a way off", y.knock(2, 999), 7992);
        for (int m = 0; m < 8; m++) y.moves(m, 1, true);
        due("all know", y.knock(1, 1000), 0);
    }

    private void knock() {
        plain("## Promise 31: knock");
        says("`int knock(int p, int r)`: KNOCKING from a PLACE by r (0 .. 1000): thousandths of MEN. UNKNOWN, OUTSIDE.");
        LastLamps x = Check.pit(LINE);
        due("nobody", x.knock(0, 1000), 0);
        x.man(1, false, false);
        due("by 0", x.knock(0, 0), 0);
        due("by 1", x.knock(0, 1), 1);
        due("by 999", x.knock(0, 999), 999);
        due("by 1000", x.knock(0, 1000), 1000);
        due("from 3", x.knock(3, 1000), 0);
        int[] rs = {-1, 1001, MIN, MAX};
        for (int r : rs) due("by " + r, x.knock(0, r), OUTSIDE);
        for (int p : NO_PLACES) {
            due("from " + p, x.knock(p, 0), UNKNOWN);
            due("from " + p + " by 1001", x.knock(p, 1001), UNKNOWN);
        }
    }

    // ---- images

    private void imagesSaid() {
        says("IMAGES 0, 1 keep MEN, LAMPS, FALLEN WAYS.");
        LastLamps x = Check.pit(LINE + "way 0 3 9;".repeat(22));
        for (int i = 0; i < 8; i++) x.man(i % 4, (i & 1) != 0, (i & 2) != 0);
        for (int i = 0; i < 4; i++) x.lamp(3 - i, 33 * i);
        for (int k = 0; k < 24; k += 3) x.fall(k, true);
        x.go(1);
        x.keep(0);
        for (int i = 0; i < 8; i++) x.moves(i, 3 - i % 4, (i & 1) == 0);
        for (int k = 0; k < 24; k++) x.fall(k, k % 2 == 0);
        x.go(2);
        x.keep(1);
        for (int round = 0; round < 3; round++) {
            int image = round % 2;
            due("back to " + image, x.goBack(image), 1);
            due("men", x.count(2), 8);
            due("lamps", x.count(3), 4);
            due("who know", x.count(8), 4);
            for (int i = 0; i < 8; i++) {
                due("place of " + i, x.told(i, 0), image == 0 ? i % 4 : 3 - i % 4);
                due("knows " + i, x.told(i, 1), image == 0 ? i & 1 : 1 - (i & 1));
                due("slow " + i, x.told(i, 2), i >> 1 & 1);
            }
            for (int l = 0; l < 4; l++) {
                due("place of lamp " + l, x.light(l, 0), 3 - l);
                due("end of lamp " + l, x.light(l, 1), 33 * l);
            }
            for (int k = 0; k < 24; k++) due("fallen " + k, x.way(k, 7), k % (image == 0 ? 3 : 2) == 0 ? 1 : 0);
            due("the row is not kept", x.count(4), 2);
        }
        imagesOfOthers();
    }

    /** Between keeping and going back there are other men with the same numbers, and other lamps. */
    private void imagesOfOthers() {
        LastLamps x = Check.pit(LINE);
        x.keep(0);
        for (int i = 0; i < 8; i++) x.man(i % 4, i % 2 == 0, i % 3 == 0);
        for (int i = 0; i < 4; i++) x.lamp(i, 20 + i);
        x.keep(1);
        x.goBack(0);
        for (int i = 0; i < 8; i++) x.man(0, i % 2 != 0, i % 3 != 0);
        for (int i = 0; i < 4; i++) x.lamp(3 - i, 70 + i);
        x.goBack(1);
        for (int i = 0; i < 8; i++) {
            due("place of the first " + i, x.told(i, 0), i % 4);
            due("knows the first " + i, x.told(i, 1), i % 2 == 0 ? 1 : 0);
            due("slow the first " + i, x.told(i, 2), i % 3 == 0 ? 1 : 0);
        }
        for (int i = 0; i < 4; i++) {
            due("place of the first lamp " + i, x.light(i, 0), i);
            due("end of the first lamp " + i, x.light(i, 1), 20 + i);
        }
    }

    private void keep() {
        plain("## Promise 32: keep");
        says("`int keep(int i)`: IMAGE i becomes what is so: 1. UNKNOWN.");
        LastLamps x = Check.pit(LINE);
        int[] is = {-1, 2, 3, MIN, MAX};
        for (int i : is) due("image " + i, x.keep(i), UNKNOWN);
        due("image 0", x.keep(0), 1);
        due("image 1 is not kept", x.goBack(1), NOT);
        x.man(3, true, true);
        due("image 1", x.keep(1), 1);
        due("back to 0", x.goBack(0), 1);
        due("nobody", x.count(2), 0);
        due("back to 1", x.goBack(1), 1);
        due("one", x.count(2), 1);
        x.man(2, false, false);
        due("over image 1", x.keep(1), 1);
        x.goBack(0);
        x.goBack(1);
        due("two", x.count(2), 2);
        due("the second", x.told(1, 0), 2);
        due("no pit", new LastLamps().keep(0), 1);
        due("no pit, image 2", new LastLamps().keep(2), UNKNOWN);
    }

    private void goBack() {
        plain("## Promise 33: goBack");
        says("`int goBack(int i)`: What is so becomes IMAGE i: 1. UNKNOWN, NOT: it was not kept.");
        LastLamps x = Check.pit(LINE);
        int[] is = {-1, 2, 3, MIN, MAX};
        for (int i : is) due("image " + i, x.goBack(i), UNKNOWN);
        due("0 was not kept", x.goBack(0), NOT);
        due("1 was not kept", x.goBack(1), NOT);
        x.keep(1);
        due("0 was not kept", x.goBack(0), NOT);
        x.man(1, true, false);
        x.lamp(1, 9);
        x.fall(1, true);
        due("back to 1", x.goBack(1), 1);
        due("no men", x.count(2), 0);
        due("no lamps", x.count(3), 0);
        due("not fallen", x.way(1, 7), 0);
        due("man 0 anew", x.man(2, false, true), 0);
        due("lamp 0 anew", x.lamp(3, 8), 0);
        due("back to 1 again", x.goBack(1), 1);
        due("no men again", x.count(2), 0);
        LastLamps y = new LastLamps();
        y.keep(0);
        due("no pit, back", y.goBack(0), 1);
        due("no pit still", y.count(0), 0);
        Check.feed(y, LINE);
        y.pit();
        due("a pit: images are gone", y.goBack(0), NOT);
    }
}
