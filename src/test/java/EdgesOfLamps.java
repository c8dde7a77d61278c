/** Who comes up by lamps, a lamp lent, a lamp as a mark: promises 18 to 20. */
final class EdgesOfLamps extends EdgesPart {
    private static final int[] NO_LAMPS = {-1, 4, MIN, MAX};
    private static final int[] NO_MORE = {-1, 8, 9, MIN, MAX};

    /** The shaft 0; 1 is 5 from it by a light only; 2 is 3 from it (dark 9, by minute 12); 3 alone. */
    private static final String PIT = "places 4;out 0 1;way 0 1 5;way 0 2 3 dark 9 fills 12;";

    EdgesOfLamps(Edges edges) {
        super(edges);
    }

    @Override
    void look() {
        whoLeaves();
        eachForOneAndMore();
        byNumbers();
        notSlowFirst();
        othersInTheDark();
        allAreSlow();
        nothingIsFull();
        upCall();
        whoBrings();
        bringsSoonest();
        leads();
        lentNone();
        lentCall();
        markLights();
        markThroughByE();
        markedLampIsNone();
        markCall();
    }

    // ---- up by lamps

    private void whoLeaves() {
        says("======== 3 At a PLACE the MEN who KNOW leave at minute 0:");
        LastLamps x = Check.pit(PIT);
        x.man(1, false, false);
        x.man(0, false, false);
        x.lamp(1, 5);
        due("nobody knows", x.up(7, NONE), 0);
        x.moves(0, 1, true);
        due("the light lasts from minute 0 to 5", x.up(0, NONE), 1);
        x.moves(1, 0, true);
        due("who is at the shaft is up", x.up(0, NONE), 2);
        x.moves(0, 3, true);
        due("who has no way is not", x.up(0, NONE), 1);
        LastLamps y = Check.pit(PIT);
        y.man(1, true, false);
        y.lamp(1, 4);
        due("to 4 it does not last", y.up(0, NONE), 0);
    }

    private void eachForOneAndMore() {
        says("those for whom there is a LAMP there (each for one and k more, k 0 .. 7;");
        LastLamps x = Check.pit(PIT);
        men(x, 8, 1, false);
        due("no lamp", x.up(7, 1), 0);
        x.lamp(1, 99);
        for (int k = 0; k < 8; k++) due("one lamp, " + k + " more", x.up(k, 1), k + 1);
        x.lamp(2, 99);
        for (int k = 0; k < 8; k++) due("a lamp elsewhere, " + k + " more", x.up(k, 1), k + 1);
        x.lamp(1, 99);
        for (int k = 0; k < 8; k++) due("two lamps, " + k + " more", x.up(k, 1), Math.min(8, 2 * k + 2));
        x.lamp(1, 99);
        for (int k = 0; k < 8; k++) due("three lamps, " + k + " more", x.up(k, NONE), Math.min(8, 3 * k + 3));
        for (int k : NO_MORE) due(k + " more", x.up(k, 1), OUTSIDE);
    }

    private void byNumbers() {
        says("LAMPS by numbers;");
        LastLamps x = Check.pit(PIT);
        men(x, 2, 1, false);
        x.lamp(1, 4);
        x.lamp(1, 5);
        due("lamp 0 for the first, 1 for the second", x.up(0, 1), 1);
        due("lamp 0 for both: it does not last", x.up(1, 1), 0);
        LastLamps y = Check.pit(PIT);
        men(y, 2, 1, false);
        y.lamp(1, 5);
        y.lamp(1, 4);
        due("lamp 0 for the first", y.up(0, 1), 1);
        due("lamp 0 for both: it lasts", y.up(1, 1), 2);
    }

    private void notSlowFirst() {
        says("MEN by numbers, who are not SLOW first),");
        LastLamps x = Check.pit(PIT);
        men(x, 1, 1, true);
        men(x, 1, 1, false);
        x.lamp(1, 9);
        due("the second has the lamp", x.up(0, 1), 1);
        x.lamp(1, 10);
        due("and the slow one the next, to 10", x.up(0, 1), 2);
        LastLamps y = Check.pit(PIT);
        men(y, 1, 2, true);
        men(y, 1, 2, false);
        y.lamp(2, 3);
        due("of 2, the slow one in the dark: 18", y.up(0, 2), 1);
        y.lamp(2, 5);
        due("slow with a light to 5: 18", y.up(0, 2), 1);
        y.lamp(2, 6);
        due("a third lamp, nobody for it", y.up(0, 2), 1);
    }

    private void othersInTheDark() {
        says("the others in the dark;");
        LastLamps x = Check.pit("places 3;out 0 1;way 0 1 5 dark 8 fills 8;way 0 2 5 dark 9 fills 8;");
        men(x, 3, 1, false);
        men(x, 3, 2, false);
        x.lamp(1, 5);
        x.lamp(2, 5);
        due("of 1 with the lamp at 5, in the dark at 8", x.up(0, 1), 3);
        due("of 2 in the dark not by 8", x.up(0, 2), 1);
        due("of 2 with one more", x.up(1, 2), 2);
        due("in all", x.up(0, NONE), 4);
        men(x, 1, 1, true);
        due("the slow one in the dark takes 16", x.up(0, 1), 3);
    }

    private void allAreSlow() {
        says("of one LAMP all are SLOW, if one is.");
        LastLamps x = Check.pit(PIT);
        men(x, 2, 1, false);
        men(x, 1, 1, true);
        x.lamp(1, 9);
        due("two who are not slow", x.up(1, 1), 2);
        due("with the slow one: 10", x.up(2, 1), 0);
        x.lamp(1, 10);
        due("the slow one by the second lamp", x.up(1, 1), 3);
        due("all by the first", x.up(2, 1), 0);
        due("each by one, the slow one by none", x.up(0, 1), 2);
    }

    private void nothingIsFull() {
        says("UP BY LAMPS: how many come to the shaft so (nothing is full).");
        LastLamps x = Check.pit("places 2;out 0 1;way 0 1 5 wide 1 fills 5;");
        men(x, 8, 1, false);
        x.lamp(1, 5);
        due("eight by a way for one a minute", x.up(7, NONE), 8);
        due("the most", x.most(60), 1);
    }

    private void upCall() {
        plain("## Promise 18: up");
        says("`int up(int k, int p)`: UP BY LAMPS with k more to each LAMP (0 .. 7): p = NONE in all, else of a PLACE's MEN. UNKNOWN, OUTSIDE, NOT: there is no PIT.");
        LastLamps x = Check.pit(PIT);
        men(x, 2, 0, false);
        men(x, 3, 1, false);
        men(x, 1, 2, false);
        men(x, 2, 3, false);
        x.lamp(1, 50);
        int[] of = {2, 2, 1, 0};
        for (int p = 0; p < 4; p++) due("of " + p, x.up(1, p), of[p]);
        due("in all", x.up(1, NONE), 5);
        int[] places = {-2, 4, 12, MIN, MAX};
        for (int p : places) {
            due("of " + p, x.up(0, p), UNKNOWN);
            due("of " + p + ", 8 more", x.up(8, p), UNKNOWN);
            due("of " + p + ", no pit", new LastLamps().up(0, p), UNKNOWN);
        }
        for (int k : NO_MORE) {
            due(k + " more in all", x.up(k, NONE), OUTSIDE);
            due(k + " more, no pit", new LastLamps().up(k, NONE), OUTSIDE);
        }
        due("no pit", new LastLamps().up(0, NONE), NOT);
        due("no pit, 7 more", new LastLamps().up(7, NONE), NOT);
        due("no pit, of 0", new LastLamps().up(0, 0), UNKNOWN);
        due("nobody", Check.pit(PIT).up(0, NONE), 0);
    }

    // ---- lent

    private void whoBrings() {
        says("LENT: a LAMP is brought by a MAN at its PLACE who KNOWS (one who is not SLOW, if there is one; the least number)");
        LastLamps x = Check.pit("places 4;out 0 1;way 0 1 5;way 1 2 4;");
        x.lamp(1, 99);
        x.man(2, true, false);
        due("nobody at its place", x.lent(0, 2), NONE);
        x.man(1, false, false);
        due("nobody there who knows", x.lent(0, 2), NONE);
        x.man(1, true, true);
        due("one who is slow: 8, 16, 26", x.lent(0, 2), 26);
        x.man(1, true, false);
        due("one who is not: 4, 8, 13", x.lent(0, 2), 13);
        x.moves(1, 1, true);
        due("two who are not", x.lent(0, 2), 13);
        x.moves(1, 3, true);
        x.moves(3, 3, true);
        due("the slow one alone again", x.lent(0, 2), 26);
    }

    private void bringsSoonest() {
        says("from minute 0 to a PLACE, SOONEST with its light,");
        LastLamps x = Check.pit("places 3;out 0 1;way 0 1 5 dark 30;way 1 2 4;way 1 2 3 dark 20;");
        x.man(1, true, false);
        x.lamp(1, 11);
        x.lamp(1, 10);
        x.lamp(1, 3);
        x.lamp(1, 2);
        due("3, 6, 11", x.lent(0, 2), 11);
        due("3, 6, then dark 36", x.lent(1, 2), 36);
        due("3, then dark 23, 53", x.lent(2, 2), 53);
        due("dark 20, 40, 70", x.lent(3, 2), 70);
        due("to its own place: at 0, 5", x.lent(0, 1), 5);
        due("to the shaft: 5", x.lent(0, 0), 5);
    }

    private void leads() {
        says("and from there at once he leads all MEN of that PLACE to the shaft (SLOW, if he or one of them is): the minute at which they are there;");
        LastLamps x = Check.pit("places 4;out 0 1;way 0 1 5;way 1 2 4;");
        x.lamp(1, 99);
        x.man(1, true, false);
        due("nobody there: 4, 8, 13", x.lent(0, 2), 13);
        x.man(2, false, false);
        due("one there: 4, 8, 13", x.lent(0, 2), 13);
        x.man(2, false, true);
        due("one there is slow, and does not know: 4, 12, 22", x.lent(0, 2), 22);
        x.moves(2, 2, true);
        due("one there is slow, and knows: 4, 12, 22", x.lent(0, 2), 22);
        x.moves(2, 3, true);
        due("the slow one is elsewhere: 13", x.lent(0, 2), 13);
        x.moves(2, 1, false);
        due("the slow one stays at the lamp's place: 13", x.lent(0, 2), 13);
        due("to the lamp's place, where one is slow: 10", x.lent(0, 1), 10);
        due("to the shaft, where none is slow: 5", x.lent(0, 0), 5);
        x.man(0, true, true);
        due("to the shaft, where one is slow: 5", x.lent(0, 0), 5);
        LastLamps y = Check.pit("places 4;out 0 1;way 0 1 5;way 1 2 4;");
        y.man(2, false, true);
        y.man(1, true, false);
        y.lamp(1, 99);
        due("the slow one is the first man: 4, 12, 22", y.lent(0, 2), 22);
    }

    private void lentNone() {
        says("NONE: they do not come there, or nobody can bring it.");
        LastLamps x = Check.pit("places 4;out 0 1;way 0 1 5;way 1 2 4;");
        x.lamp(1, 13);
        x.lamp(1, 12);
        x.lamp(1, 3);
        x.lamp(3, 99);
        x.man(1, true, false);
        x.man(3, true, false);
        due("it lasts to 13", x.lent(0, 2), 13);
        due("it lasts to 12: they do not come there", x.lent(1, 2), NONE);
        due("it lasts to 3: he does not come to them", x.lent(2, 2), NONE);
        due("no way to 3", x.lent(0, 3), NONE);
        due("no way from 3", x.lent(3, 3), NONE);
        x.moves(0, 1, false);
        due("nobody can bring it", x.lent(0, 2), NONE);
        due("nor to where it is", x.lent(0, 1), NONE);
        LastLamps y = Check.pit("places 3;out 0 1;way 0 1 5 fills 12;way 1 2 4;");
        y.lamp(1, 99);
        y.man(1, true, false);
        due("through at 13, it fills at 12", y.lent(0, 2), NONE);
        due("straight up", y.lent(0, 1), 5);
    }

    private void lentCall() {
        plain("## Promise 19: lent");
        says("`int lent(int l, int p)`: LENT: a LAMP to a PLACE; NONE. UNKNOWN.");
        LastLamps x = Check.pit(PIT);
        due("lamp 0, there is none", x.lent(0, 0), UNKNOWN);
        for (int i = 0; i < 4; i++) x.lamp(1, 50);
        men(x, 1, 1, false);
        for (int l = 0; l < 4; l++) due("lamp " + l, x.lent(l, 1), 5);
        due("to 3", x.lent(3, 3), NONE);
        for (int l : NO_LAMPS) due("lamp " + l, x.lent(l, 1), UNKNOWN);
        for (int p : NO_PLACES) due("to " + p, x.lent(0, p), UNKNOWN);
    }

    // ---- marks

    private void markLights() {
        says("A MARK: a LAMP left at a PLACE: all WAYS that touch it take L minutes");
        // The ways of 1 can be gone with a light only, that from 2 to 0 too.
        LastLamps x = Check.pit("places 5;out 0 1;way 0 1 5;way 2 1 4;way 3 1 3;way 2 0 9;");
        for (int p = 0; p < 5; p++) x.man(p, true, false);
        x.lamp(4, 99);
        int[] due = {102, 103, 102, 100, 100};
        for (int p = 0; p < 5; p++) due("left at " + p, x.mark(0, p, 0), due[p]);
        due("the man at the shaft alone, as it is", x.up(0, NONE), 1);
        // In the dark one could, but not in time.
        LastLamps y = Check.pit("places 2;out 0 1;way 0 1 5 dark 8 fills 7;");
        y.man(1, true, false);
        y.lamp(0, 99);
        due("L and not D", y.mark(0, 0, 0), 101);
        due("L and not D, at the other end", y.mark(0, 1, 0), 101);
    }

    private void markThroughByE() {
        says("to all who are through by its E, whether with a light or not:");
        LastLamps x = Check.pit("places 3;out 0 1;way 0 1 5;way 1 2 4 dark 6;");
        x.man(2, true, false);
        for (int e = 9; e <= 12; e++) x.lamp(0, e);
        due("at 0, to 9: dark 6, and through at 11", x.mark(0, 0, 0), 100);
        due("at 0, to 10", x.mark(1, 0, 0), 100);
        due("at 0, to 11", x.mark(2, 0, 0), 101);
        due("at 1, to 9: 4 and 5", x.mark(0, 1, 0), 101);
        LastLamps y = Check.pit("places 3;out 0 1;way 0 1 5;way 1 2 4 dark 6;");
        y.man(2, true, false);
        y.lamp(0, 8);
        due("at 1, to 8: not through by it", y.mark(0, 1, 0), 100);
        y.lamp(2, 4);
        due("with a light of his own to 4, to 1 only", y.up(0, NONE), 0);
        y.lamp(1, 9);
        due("with that light, and by the mark at 0 on", y.mark(2, 0, 0), 101);
        LastLamps w = Check.pit("places 2;out 0 1;way 0 1 5;");
        w.man(1, true, false);
        w.lamp(1, 5);
        w.lamp(1, 4);
        due("who has a light that lasts needs no mark", w.mark(1, 1, 0), 100);
        due("the mark lasts as long, he needs no light", w.mark(0, 1, 0), 100);
        due("at the other end of the way it lights it as well", w.mark(0, 0, 0), 100);
        w.fall(0, true);
        due("a fallen way is shut by a mark too", w.mark(0, 0, 0), 100);
        // Slow: it must last for all of it.
        LastLamps z = Check.pit("places 2;out 0 1;way 0 1 5;");
        z.man(1, true, true);
        z.lamp(0, 9);
        z.lamp(0, 10);
        due("slow, to 9", z.mark(0, 1, 0), 100);
        due("slow, to 10", z.mark(1, 1, 0), 101);
    }

    private void markedLampIsNone() {
        says("how many come UP BY LAMPS so, that LAMP being none any more, less how many as it is: told as 100 and that.");
        LastLamps x = Check.pit(PIT);
        men(x, 3, 1, false);
        x.lamp(1, 50);
        due("as it is", x.up(2, NONE), 3);
        due("left where nobody goes: three less", x.mark(0, 3, 2), 97);
        due("one less", x.mark(0, 3, 0), 99);
        due("left with them: as many as it is", x.mark(0, 1, 2), 100);
        due("left with them: two more", x.mark(0, 1, 0), 102);
        due("it is not left in earnest", x.up(0, NONE), 1);
        due("it is where it was", x.light(0, 0), 1);
        x.lamp(1, 50);
        due("the other lamp has k more: as it is two, so one", x.mark(0, 3, 0), 99);
        due("the other lamp has two more: as it is three, so three", x.mark(0, 3, 2), 100);
        LastLamps y = Check.pit(PIT);
        men(y, 8, 1, false);
        y.lamp(1, 50);
        due("eight less", y.mark(0, 2, 7), 92);
        LastLamps z = Check.pit(PIT);
        men(z, 8, 1, false);
        z.lamp(3, 50);
        due("eight more", z.mark(0, 0, 7), 108);
    }

    private void markCall() {
        plain("## Promise 20: mark");
        says("`int mark(int l, int p, int k)`: A MARK: a LAMP left at a PLACE, k more to each other one. UNKNOWN, OUTSIDE.");
        LastLamps x = Check.pit(PIT);
        due("lamp 0, there is none", x.mark(0, 0, 0), UNKNOWN);
        for (int i = 0; i < 3; i++) x.lamp(1, 50);
        x.lamp(3, 50);
        men(x, 8, 1, false);
        // As it is three lamps are for 3 + 3k, without one of them 2 + 2k.
        int[] due = {99, 98, 98, 100, 100, 100, 100, 100};
        for (int k = 0; k < 8; k++) due(k + " more", x.mark(0, 3, k), due[k]);
        for (int l : NO_LAMPS) due("lamp " + l, x.mark(l, 0, 0), UNKNOWN);
        for (int p : NO_PLACES) due("at " + p, x.mark(0, p, 0), UNKNOWN);
        for (int k : NO_MORE) {
            due(k + " more", x.mark(0, 0, k), OUTSIDE);
            due(k + " more, lamp 4", x.mark(4, 0, k), UNKNOWN);
            due(k + " more, at 4", x.mark(0, 4, k), UNKNOWN);
        }
    }
}
