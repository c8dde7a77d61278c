/** Tellers, one and two of them, and when it is too late: promises 21 to 24. */
final class EdgesOfTelling extends EdgesPart {
    /** The shaft 0; 1, 2, 3 are 5, 10, 20 from it, with a light or not. */
    private static final String STAR = "places 5;out 0 1;way 0 1 5 dark 5;way 0 2 10 dark 10;way 0 3 20 dark 20;";

    EdgesOfTelling(Edges edges) {
        super(edges);
    }

    @Override
    void look() {
        teller();
        begins();
        rows();
        toldUp();
        setByRow();
        emptySet();
        bestSaid();
        bestOfLike();
        twoSaid();
        twoOfLike();
        moreThanSix();
        lateSaid();
        tellsCall();
        toldBestCall();
        byTwoCall();
        tooLateCall();
    }

    /** STAR with one who knows at the shaft, and one who does not at each of 1, 2, 3. */
    private static LastLamps star() {
        LastLamps x = Check.pit(STAR);
        x.man(0, true, false);
        for (int p = 1; p < 4; p++) x.man(p, false, false);
        return x;
    }

    /** One who knows at the shaft 0, and one who does not at each of n other places, a minute away. */
    private static LastLamps around(int n) {
        StringBuilder text = new StringBuilder("places 12;out 0 1;");
        for (int i = 1; i < 12; i++) text.append("way 0 ").append(i).append(" 1 dark 1;");
        LastLamps x = Check.pit(text.toString());
        x.man(0, true, false);
        for (int i = 0; i < n; i++) x.man(11 - i, false, false);
        return x;
    }

    private void teller() {
        says("======== 4 TELLING: a TELLER is a MAN who KNOWS, with a light to minute E;");
        LastLamps x = Check.pit("places 3;out 0 1;way 0 1 5 dark 5;way 1 2 4;");
        x.man(0, true, false);
        x.man(0, true, true);
        x.man(0, false, false);
        x.man(2, false, false);
        due("to 2 and back: 5, 9, 13", x.tells(0, 13, 0, 4), 0);
        due("the light to 12 does not last for 2 to 1", x.tells(0, 12, 0, 4), NONE);
        due("slow: 10, 18, 26", x.tells(1, 26, 0, 4), 0);
        due("slow, the light to 25", x.tells(1, 25, 0, 4), NONE);
        due("who does not know", x.tells(2, 99, 0, 4), NOT);
        x.moves(0, 0, false);
        due("who does not know any more", x.tells(0, 99, 0, 4), NOT);
    }

    private void begins() {
        says("he begins at minute t at his PLACE and WALKS to PLACES where some MAN does not KNOW,");
        LastLamps x = star();
        due("at 0", x.tells(0, NONE, 0, 8), 1);
        due("at 39: told at 59, he and the other up at 79", x.tells(0, NONE, 39, 8), 1);
        due("at 59: up at 99", x.tells(0, NONE, 59, 8), 1);
        due("at 60: up at 100", x.tells(0, NONE, 60, 8), NONE);
        x.moves(0, 3, true);
        due("from 3: told at once", x.tells(0, NONE, 79, 8), 1);
        due("from 3: asked again", x.tells(0, NONE, 79, 8), 1);
        due("from 3 to 1: 20, 25, 30", x.tells(0, NONE, 69, 2), 1);
        due("a minute later", x.tells(0, NONE, 70, 2), NONE);
        due("a place where nobody is", x.tells(0, NONE, 0, 16), UNKNOWN);
        x.man(4, true, false);
        due("a place where all know", x.tells(0, NONE, 0, 16), UNKNOWN);
        x.man(4, false, false);
        due("a place where one does not know, he comes not there", x.tells(0, NONE, 0, 16), NONE);
    }

    private void rows() {
        says("a row of unlike ones, SOONEST from each to the next, then to the shaft: he CAN, if he comes to all and up.");
        LastLamps x = Check.pit("places 4;out 0 1;way 0 1 5 dark 5;way 1 2 4 dark 4;way 0 2 20 dark 20;way 2 3 1 dark 1 fills 30;");
        x.man(0, true, false);
        x.man(2, false, false);
        x.man(3, false, false);
        due("by 1: told at 9, up at 18", x.tells(0, NONE, 81, 4), 1);
        due("a minute later", x.tells(0, NONE, 82, 4), NONE);
        due("2 and 3: 28, 29, back through 2 at 30, 39", x.tells(0, NONE, 19, 12), 2);
        due("comes to 3 at 30, and not back", x.tells(0, NONE, 20, 12), NONE);
        due("3 alone is through 2", x.tells(0, NONE, 19, 8), 1);
        due("who is passed on the way is not told", x.tells(0, NONE, 0, 8), 1);
    }

    private void toldUp() {
        says("Those who do not KNOW at a PLACE begin at the minute he comes there, each on his own in the dark (SLOW or not): TOLD UP are those who come to the shaft.");
        LastLamps x = Check.pit("places 3;out 0 1;way 0 1 5 dark 8;way 0 2 5;");
        x.man(0, true, false);
        x.man(1, false, false);
        x.man(1, false, true);
        x.man(1, true, false);
        x.man(2, false, false);
        x.lamp(1, 99);
        LastLamps first = Check.pit(STAR);
        first.man(1, false, false);
        first.man(0, true, false);
        due("the first man does not know", first.tells(1, NONE, 0, 2), 1);
        due("his place is such a one", first.toldBest(1, NONE, 0, 0), 2);
        due("told at 5, by 13 and 21", x.tells(0, 99, 0, 2), 2);
        due("told at 83, by 91 and 99", x.tells(0, 99, 78, 2), 2);
        due("told at 84, by 92 and 100", x.tells(0, 99, 79, 2), 1);
        due("told at 91, by 99", x.tells(0, 99, 86, 2), 1);
        due("told at 92: none, he is up", x.tells(0, 99, 87, 2), 0);
        due("told at 94: none, he is up at 99", x.tells(0, 99, 89, 2), 0);
        due("he is not up", x.tells(0, 99, 90, 2), NONE);
        due("none goes from 2 in the dark", x.tells(0, 99, 0, 4), 0);
        due("both", x.tells(0, 99, 0, 6), 2);
    }

    private void setByRow() {
        says("For each SET of such PLACES: the most that are TOLD UP by a row of just these that he CAN (NONE: there is none;");
        // From 1 one is up by 20 only, from 2 by 30: 1 first, then both are; 2 first, then 2 alone.
        LastLamps x = Check.pit("places 3;out 0 1;way 0 1 5 dark 9 fills 20;way 0 2 5 dark 9 fills 30;");
        x.man(0, true, false);
        x.man(1, false, false);
        x.man(2, false, false);
        due("1 first: told at 5 and 15, he is up at 20", x.tells(0, 99, 0, 6), 2);
        due("1 first: told at 11 and 21", x.tells(0, 99, 6, 6), 2);
        due("1 first: told at 12 and 22", x.tells(0, 99, 7, 6), 0);
        due("he is back from 1 at 20, up from 2 at 30", x.tells(0, 99, 10, 6), 0);
        due("not any more", x.tells(0, 99, 11, 6), NONE);
        due("2 alone", x.tells(0, 99, 11, 4), 1);
        LastLamps y = star();
        due("all three: 1, 2, 3 by 70", y.tells(0, NONE, 29, 14), 3);
        due("a minute later", y.tells(0, NONE, 30, 14), NONE);
        due("two of them", y.tells(0, NONE, 30, 12), 2);
    }

    private void emptySet() {
        says("the empty SET: 0, if he comes up).");
        LastLamps x = star();
        due("at the shaft", x.tells(0, NONE, 99, 0), 0);
        x.moves(0, 3, true);
        due("from 3 at 79", x.tells(0, NONE, 79, 0), 0);
        due("from 3 at 80", x.tells(0, NONE, 80, 0), NONE);
        x.moves(0, 4, true);
        due("from 4", x.tells(0, 99, 0, 0), NONE);
        for (int m = 1; m < 4; m++) x.moves(m, 4, true);
        due("all know, he comes not up", x.tells(0, 99, 0, 0), NONE);
        x.moves(0, 0, true);
        due("all know", x.tells(0, 99, 0, 0), 0);
    }

    private void bestSaid() {
        says("TOLD BEST: the SET with the most");
        LastLamps x = star();
        // At 29 all three by 99; at 30 the least set of two that can be: 1 and 2; so on.
        int[][] due = {{0, 14, 3}, {29, 14, 3}, {30, 6, 2}, {69, 6, 2}, {70, 2, 1}, {79, 2, 1}, {89, 2, 1}, {90, 0, 0}, {99, 0, 0}};
        for (int[] d : due) {
            due("the set at " + d[0], x.toldBest(0, NONE, d[0], 0), d[1]);
            due("how many at " + d[0], x.toldBest(0, NONE, d[0], 1), d[2]);
        }
        x.man(3, false, false);
        x.man(3, false, false);
        due("three at 3, at 30", x.toldBest(0, NONE, 30, 0), 10);
        due("how many", x.toldBest(0, NONE, 30, 1), 4);
        due("three at 3, at 59", x.toldBest(0, NONE, 59, 0), 8);
        due("how many", x.toldBest(0, NONE, 59, 1), 3);
    }

    private void bestOfLike() {
        says("(of like ones the least).");
        LastLamps x = star();
        due("1 and 2, 1 and 3, 2 and 3 have two", x.tells(0, NONE, 30, 6) + x.tells(0, NONE, 30, 10) + x.tells(0, NONE, 30, 12), 6);
        due("the least of them", x.toldBest(0, NONE, 30, 0), 6);
        LastLamps y = Check.pit("places 3;out 0 1;way 0 1 5;way 0 2 5;");
        y.man(0, true, false);
        y.man(1, false, false);
        y.man(2, false, false);
        due("none is up in the dark: the empty set", y.toldBest(0, 99, 0, 0), 0);
        due("none", y.toldBest(0, 99, 0, 1), 0);
        due("though he can tell both", y.tells(0, 99, 0, 6), 0);
        LastLamps z = around(6);
        due("six like ones in any row", z.toldBest(0, NONE, 0, 0), 63 << 6);
        due("by 99: only one of them", z.toldBest(0, NONE, 97, 0), 1 << 6);
        due("at 98 none of six", z.toldBest(0, NONE, 98, 0), 0);
        due("at 99 none of six", z.toldBest(0, NONE, 99, 0), 0);
    }

    private void twoSaid() {
        says("BY TWO: two TELLERS, each with his own light, both from t, two SETS with no PLACE in both: the most together;");
        LastLamps x = star();
        x.man(0, true, false);
        due("at 0, how many", x.byTwo(0, NONE, 4, NONE, 0, 2), 3);
        due("at 30 one alone", x.toldBest(0, NONE, 30, 1), 2);
        due("at 30 both", x.byTwo(0, NONE, 4, NONE, 30, 2), 3);
        due("at 59: one to 3, one to 1 and 2", x.byTwo(0, NONE, 4, NONE, 59, 2), 3);
        due("at 60: 3 is too late", x.byTwo(0, NONE, 4, NONE, 60, 2), 2);
        due("at 79: one to 1, one to 2", x.byTwo(0, NONE, 4, NONE, 79, 2), 2);
        due("at 80: one to 1", x.byTwo(0, NONE, 4, NONE, 80, 2), 1);
        due("at 89", x.byTwo(0, NONE, 4, NONE, 89, 2), 1);
        due("at 90", x.byTwo(0, NONE, 4, NONE, 90, 2), 0);
        LastLamps y = Check.pit("places 3;out 0 1;way 0 1 5;way 0 2 5 dark 9;");
        y.man(0, true, false);
        y.man(1, true, true);
        y.man(2, false, false);
        due("the second needs a light to 10", y.byTwo(0, NONE, 1, 9, 0, 2), NONE);
        due("has it", y.byTwo(0, NONE, 1, 10, 0, 2), 1);
        due("the light is not the first's", y.byTwo(0, 10, 1, NONE, 0, 2), NONE);
        due("the other way round", y.byTwo(1, 10, 0, NONE, 0, 2), 1);
        due("the light of the second is not his", y.byTwo(1, NONE, 0, 10, 0, 2), NONE);
    }

    private void twoOfLike() {
        says("of like ones the least first SET, then the least second one.");
        LastLamps x = star();
        x.man(0, true, false);
        int[][] due = {{0, 0, 14}, {29, 0, 14}, {30, 2, 12}, {39, 2, 12}, {40, 4, 10}, {49, 4, 10}, {50, 6, 8}, {59, 6, 8},
            {60, 0, 6}, {69, 0, 6}, {70, 2, 4}, {79, 2, 4}, {80, 0, 2}, {89, 0, 2}, {90, 0, 0}};
        for (int[] d : due) {
            due("first at " + d[0], x.byTwo(0, NONE, 4, NONE, d[0], 0), d[1]);
            due("second at " + d[0], x.byTwo(0, NONE, 4, NONE, d[0], 1), d[2]);
        }
        // Where telling 3 is of no use, the second set is without it.
        LastLamps y = Check.pit("places 4;out 0 1;way 0 1 5 dark 5;way 0 2 5 dark 5;way 0 3 5;");
        y.man(0, true, false);
        y.man(0, true, false);
        for (int p = 1; p < 4; p++) y.man(p, false, false);
        due("first", y.byTwo(0, 99, 1, 99, 0, 0), 0);
        due("second", y.byTwo(0, 99, 1, 99, 0, 1), 6);
        due("first at 85", y.byTwo(0, 99, 1, 99, 85, 0), 2);
        due("second at 85", y.byTwo(0, 99, 1, 99, 85, 1), 4);
        // One of them is at 3 and comes up when the ways to 1 and 2 have filled: the other tells all.
        LastLamps z = Check.pit("places 4;out 0 1;way 0 1 1 dark 1 fills 4;way 0 2 1 dark 1 fills 4;way 0 3 4 dark 4;");
        z.man(0, true, false);
        z.man(3, true, false);
        z.man(1, false, false);
        z.man(2, false, false);
        due("all by the first", z.byTwo(0, NONE, 1, NONE, 0, 0), 6);
        due("none by the second", z.byTwo(0, NONE, 1, NONE, 0, 1), 0);
        due("none by the first", z.byTwo(1, NONE, 0, NONE, 0, 0), 0);
        due("all by the second", z.byTwo(1, NONE, 0, NONE, 0, 1), 6);
    }

    private void moreThanSix() {
        says("NOT: there are more than 6 such PLACES.");
        LastLamps six = around(6);
        due("six, tells", six.tells(0, NONE, 0, 63 << 6), 6);
        due("six, best", six.toldBest(0, NONE, 0, 1), 6);
        due("six, too late", six.tooLate(0, NONE, 6), 98);
        six.man(11, false, false);
        due("two at one place, still six", six.tells(0, NONE, 0, 63 << 6), 7);
        LastLamps seven = around(7);
        due("seven, tells", seven.tells(0, NONE, 0, 1 << 11), NOT);
        due("seven, the empty set", seven.tells(0, NONE, 0, 0), NOT);
        due("seven, best", seven.toldBest(0, NONE, 0, 1), NOT);
        due("seven, too late", seven.tooLate(0, NONE, 11), NOT);
        seven.moves(7, 5, true);
        due("six again", seven.tells(0, NONE, 0, 63 << 6), 6);
        due("six again, two tellers", seven.byTwo(0, NONE, 7, NONE, 0, 2), 6);
        seven.moves(6, 6, true);
        due("five, two tellers", seven.byTwo(0, NONE, 6, NONE, 0, 2), 5);
        LastLamps man = around(7);
        man.moves(1, 0, true);
        man.moves(2, 0, false);
        due("six with the shaft, two tellers", man.byTwo(0, NONE, 1, NONE, 0, 2), 6);
    }

    private void lateSaid() {
        says("TOO LATE is the least t (0 .. 99) at which the TELLER CAN not tell the one PLACE any more; 100: he always can.");
        LastLamps x = star();
        due("1: 5 and 5 by 99", x.tooLate(0, NONE, 1), 90);
        due("2: 10 and 10 by 99", x.tooLate(0, NONE, 2), 80);
        due("3: 20 and 20 by 99", x.tooLate(0, NONE, 3), 60);
        for (int p = 1; p < 4; p++) {
            int late = x.tooLate(0, NONE, p);
            due("he can before", x.tells(0, NONE, late - 1, 1 << p), 1);
            due("he can not then", x.tells(0, NONE, late, 1 << p), NONE);
        }
        x.man(0, false, false);
        due("who is with him at the shaft", x.tooLate(0, NONE, 0), 100);
        x.man(4, false, false);
        due("where he never comes", x.tooLate(0, NONE, 4), 0);
        x.moves(0, 3, true);
        due("from 3 to 3", x.tooLate(0, NONE, 3), 80);
        due("from 3 to the shaft", x.tooLate(0, NONE, 0), 80);
        due("from 3 to 1", x.tooLate(0, NONE, 1), 70);
        LastLamps y = Check.pit("places 3;out 0 1;way 0 1 5 fills 11;way 0 2 5;");
        y.man(0, true, false);
        y.man(1, false, false);
        y.man(2, false, false);
        due("by 11, though none goes from there in the dark", y.tooLate(0, 99, 1), 2);
        due("at 0 only", y.tooLate(0, 10, 1), 1);
        due("not even then", y.tooLate(0, 9, 1), 0);
        due("light to 99", y.tooLate(0, 99, 2), 90);
        due("light to 98", y.tooLate(0, 98, 2), 89);
        due("no light", y.tooLate(0, NONE, 2), 0);
        LastLamps z = Check.pit("places 2;out 0 1;way 0 1 5 fills 5;");
        z.man(1, true, false);
        z.man(1, false, false);
        due("with him, and they go at 0 or never", z.tooLate(0, 5, 1), 1);
        due("not with a light to 4", z.tooLate(0, 4, 1), 0);
        LastLamps w = star();
        w.man(0, true, true);
        due("slow: 10 and 10 by 99", w.tooLate(4, NONE, 1), 80);
        due("slow: 40 and 40 by 99", w.tooLate(4, NONE, 3), 20);
        due("slow, he can before", w.tells(4, NONE, 19, 8), 1);
        due("slow, he can not then", w.tells(4, NONE, 20, 8), NONE);
    }

    // ---- the calls

    private void tellsCall() {
        plain("## Promise 21: tells");
        says("`int tells(int m, int end, int t, int set)`: TOLD UP by the TELLER for a SET of PLACES; NONE. UNKNOWN (the MAN, bits that are no such PLACES), OUTSIDE (t, E), NOT: he does not KNOW, or there are more than 6 such PLACES.");
        LastLamps x = star();
        due("light to 0, at 0", x.tells(0, 0, 0, 2), 1);
        due("light to 99, at 89", x.tells(0, 99, 89, 2), 1);
        due("he can not", x.tells(0, 99, 90, 2), NONE);
        int[] ms = {-1, 4, 8, MIN, MAX};
        for (int m : ms) due("man " + m, x.tells(m, 0, 0, 0), UNKNOWN);
        for (int bit = 0; bit < 32; bit++) if (bit < 1 || bit > 3) due("bit " + bit, x.tells(0, 0, 0, 1 << bit | 2), UNKNOWN);
        due("all bits", x.tells(0, 0, 0, -1), UNKNOWN);
        for (int t : NO_MINUTES) due("at " + t, x.tells(0, 0, t, 0), OUTSIDE);
        for (int e : NO_LIGHTS) due("light to " + e, x.tells(0, e, 0, 0), OUTSIDE);
        due("he does not know", x.tells(1, 0, 0, 0), NOT);
        due("he does not know, at 100", x.tells(1, 0, 100, 0), OUTSIDE);
        due("he does not know, light to 100", x.tells(1, 100, 0, 0), OUTSIDE);
        due("he does not know, bit 0", x.tells(1, 0, 0, 1), UNKNOWN);
        due("at 100, bit 0", x.tells(0, 0, 100, 1), UNKNOWN);
        due("light to 100, man 4", x.tells(4, 100, 0, 0), UNKNOWN);
        LastLamps y = around(7);
        due("seven", y.tells(0, 0, 0, 0), NOT);
        due("seven, at 100", y.tells(0, 0, 100, 0), OUTSIDE);
        due("seven, bit 1", y.tells(0, 0, 0, 2), UNKNOWN);
        due("seven, bit 11", y.tells(0, 0, 0, 2048), NOT);
    }

    private void toldBestCall() {
        plain("## Promise 22: toldBest");
        says("`int toldBest(int m, int end, int t, int what)`: TOLD BEST: what = 0 the SET, 1 how many; NONE: he comes not up at all. UNKNOWN, OUTSIDE, NOT, as in tells().");
        LastLamps x = star();
        due("the set", x.toldBest(0, 0, 0, 0), 14);
        due("how many", x.toldBest(0, 0, 0, 1), 3);
        x.moves(0, 3, true);
        due("he comes up at 99", x.toldBest(0, 0, 79, 0), 8);
        due("he comes not up, the set", x.toldBest(0, 0, 80, 0), NONE);
        due("he comes not up, how many", x.toldBest(0, 0, 80, 1), NONE);
        int[] ms = {-1, 4, 8, MIN, MAX}, whats = {-1, 2, MIN, MAX};
        for (int m : ms) due("man " + m, x.toldBest(m, 0, 0, 0), UNKNOWN);
        for (int w : whats) due("what " + w, x.toldBest(0, 0, 0, w), OUTSIDE);
        for (int t : NO_MINUTES) due("at " + t, x.toldBest(0, 0, t, 0), OUTSIDE);
        for (int e : NO_LIGHTS) due("light to " + e, x.toldBest(0, e, 0, 0), OUTSIDE);
        due("he does not know", x.toldBest(1, 0, 0, 0), NOT);
        due("he does not know, what 2", x.toldBest(1, 0, 0, 2), OUTSIDE);
        due("man 4, what 2", x.toldBest(4, 0, 0, 2), UNKNOWN);
        due("seven", around(7).toldBest(0, 0, 0, 0), NOT);
    }

    private void byTwoCall() {
        plain("## Promise 23: byTwo");
        says("`int byTwo(int m, int end, int n, int other, int t, int what)`: BY TWO: what = 0, 1 the SETS, 2 how many; NONE. UNKNOWN (one twice), OUTSIDE, NOT, as in tells() (of either).");
        LastLamps x = star();
        x.man(0, true, false);
        due("first", x.byTwo(0, 0, 4, 0, 59, 0), 6);
        due("second", x.byTwo(0, 0, 4, 0, 59, 1), 8);
        due("how many", x.byTwo(0, 0, 4, 0, 59, 2), 3);
        int[] ms = {-1, 5, 8, MIN, MAX}, whats = {-1, 3, MIN, MAX};
        for (int m : ms) {
            due("man " + m, x.byTwo(m, 0, 4, 0, 0, 0), UNKNOWN);
            due("and man " + m, x.byTwo(0, 0, m, 0, 0, 0), UNKNOWN);
        }
        due("one twice", x.byTwo(0, 0, 0, 0, 0, 0), UNKNOWN);
        due("one twice, who does not know", x.byTwo(1, 0, 1, 0, 0, 0), UNKNOWN);
        due("one twice, at 100", x.byTwo(0, 0, 0, 0, 100, 0), UNKNOWN);
        for (int w : whats) due("what " + w, x.byTwo(0, 0, 4, 0, 0, w), OUTSIDE);
        for (int t : NO_MINUTES) due("at " + t, x.byTwo(0, 0, 4, 0, t, 0), OUTSIDE);
        for (int e : NO_LIGHTS) {
            due("light to " + e, x.byTwo(0, e, 4, 0, 0, 0), OUTSIDE);
            due("the other's light to " + e, x.byTwo(0, 0, 4, e, 0, 0), OUTSIDE);
        }
        due("the first does not know", x.byTwo(1, 0, 4, 0, 0, 0), NOT);
        due("the second does not know", x.byTwo(0, 0, 1, 0, 0, 0), NOT);
        due("the second does not know, what 3", x.byTwo(0, 0, 1, 0, 0, 3), OUTSIDE);
        x.moves(4, 3, true);
        for (int w = 0; w < 3; w++) due("the second comes not up", x.byTwo(0, 0, 4, 0, 80, w), NONE);
        for (int w = 0; w < 3; w++) due("the first comes not up", x.byTwo(4, 0, 0, 0, 80, w), NONE);
        LastLamps y = Check.pit("places 8;out 0 1;");
        y.man(0, true, false);
        for (int p = 1; p < 8; p++) y.man(p, p == 1, false);
        due("six", y.byTwo(0, 0, 1, 0, 0, 2), NONE);
        y.moves(1, 0, true);
        due("six", y.byTwo(0, 0, 1, 0, 0, 2), 0);
    }

    private void tooLateCall() {
        plain("## Promise 24: tooLate");
        says("`int tooLate(int m, int end, int p)`: TOO LATE for a PLACE (of MEN who do not KNOW). UNKNOWN, OUTSIDE, NOT, as in tells().");
        LastLamps x = star();
        x.man(4, true, false);
        due("light to 0", x.tooLate(0, 0, 1), 90);
        due("light to 99", x.tooLate(0, 99, 1), 90);
        int[] ms = {-1, 5, 8, MIN, MAX}, ps = {-1, 5, 12, 33, MIN, MAX};
        for (int m : ms) due("man " + m, x.tooLate(m, 0, 1), UNKNOWN);
        for (int p : ps) due("for " + p, x.tooLate(0, 0, p), UNKNOWN);
        due("where all know", x.tooLate(0, 0, 4), UNKNOWN);
        due("the shaft, where all know", x.tooLate(0, 0, 0), UNKNOWN);
        for (int e : NO_LIGHTS) due("light to " + e, x.tooLate(0, e, 1), OUTSIDE);
        due("light to 100, where all know", x.tooLate(0, 100, 4), UNKNOWN);
        due("he does not know", x.tooLate(1, 0, 2), NOT);
        due("he does not know, light to 100", x.tooLate(1, 100, 2), OUTSIDE);
        due("he does not know, for 4", x.tooLate(1, 0, 4), UNKNOWN);
        due("seven", around(7).tooLate(0, 0, 11), NOT);
        due("six", around(6).tooLate(0, 0, 11), 98);
    }
}
