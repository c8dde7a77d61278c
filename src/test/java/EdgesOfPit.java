/** The text of the pit, its faults, and what a pit is made of: promises 1 to 7. */
final class EdgesOfPit extends EdgesPart {
    private static final String TWO = "places 2;out 0 1;";
    private static final String WAY = TWO + "way 0 1 9";

    EdgesOfPit(Edges edges) {
        super(edges);
    }

    @Override
    void look() {
        object();
        numbers();
        places();
        out();
        ways();
        dark();
        wide();
        fills();
        bad();
        optionalWords();
        figures();
        letters();
        blanks();
        firstByte();
        faultOne();
        faultTwo();
        faultsThreeToFive();
        noPit();
        newObject();
        feed();
        pitEmptiesText();
        pitTakesAll();
        pitKeepsAll();
        fault();
        way();
        fall();
        count();
    }

    /** A text that has no fault, and so many ways. */
    private void good(String text, int ways) {
        LastLamps x = new LastLamps();
        Check.feed(x, text);
        due("pit of " + text, x.pit(), ways);
        due("fault of " + text, x.fault(), NONE);
    }

    private void bad(String text, int kind, int at) {
        LastLamps x = new LastLamps();
        Check.feed(x, text);
        due("pit of " + text, x.pit(), -10 - kind);
        due("fault of " + text, x.fault(), at);
        due("places by " + text, x.count(0), 0);
    }

    // ---- the object, numbers

    private void object() {
        says("An object is used for at most 512 calls after it has been made");
        LastLamps x = new LastLamps();
        int calls = 0;
        for (byte b : "places 3;out 0 1;way 0 1 3 dark 4;way 1 2 5;".getBytes()) {
            x.feed(1, b);
            calls++;
        }
        due("pit", x.pit(), 2);
        due("man", x.man(0, true, false), 0);
        due("man", x.man(1, false, false), 1);
        due("man", x.man(0, true, true), 2);
        for (calls += 4; calls < 512; calls++) due("call " + (calls + 1), x.byTwo(0, 30, 2, 30, 0, calls % 3), calls % 3 == 0 ? 0 : calls % 3 == 1 ? 2 : 1);
    }

    private void numbers() {
        plain("Words in capitals are told where they come first.");
        says("All numbers are whole; / cuts towards 0.");
        LastLamps x = Check.pit(WAY + " bad 7;");
        due("993000 times 993 / 1000 is 986049", x.opens(0, 2), 986049);
        due("986049 times 993 / 1000 is 979146.657", x.opens(0, 3), 979146);
        says("What has a number has it from 0 on, as it comes.");
        LastLamps y = Check.pit("places 3;way 2 1 9;out 1 3;way 1 0 8;");
        due("the first way", y.way(0, 2), 9);
        due("the second way", y.way(1, 2), 8);
        due("the first man", y.man(0, true, true), 0);
        due("the second man", y.man(2, true, true), 1);
        due("the first lamp", y.lamp(2, 3), 0);
        due("the second lamp", y.lamp(2, 3), 1);
        due("place -1", y.go(-1), UNKNOWN);
        due("place 0", y.go(0), 1);
        due("place 2", y.go(2), 2);
        due("place 3", y.go(3), UNKNOWN);
        says("A SET is a whole number, bit k for k.");
        StringBuilder star = new StringBuilder("places 12;out 11 1;");
        for (int i = 0; i < 11; i++) star.append("way 11 ").append(i).append(" 1 dark 1;");
        LastLamps z = Check.pit(star.toString());
        due("all twelve", z.open(0, NONE, false), 4095);
        for (int i = 0; i < 11; i++) {
            z.fall(i, true);
            due("all but " + i, z.open(0, NONE, false), 4095 - (1 << i));
            z.fall(i, false);
        }
        due("the shaft alone", z.open(99, NONE, false), 2048);
        says("NONE is -1.");
        due("NONE", LastLamps.NONE, -1);
        says("MILLION is 1000000.");
        due("at first no way is bad", x.opens(0, 0), 1000000);
    }

    // ---- clauses

    private void places() {
        says("======== 1 THE PIT is told in a text (400 bytes at most): clauses:");
        String full = TWO + " ".repeat(383);
        good(full, 0);
        LastLamps x = new LastLamps();
        Check.feed(x, full);
        due("400 bytes", x.count(5), 400);
        due("one more", x.feed(1, ' '), FULL);
        good(TWO + " ".repeat(373) + "way 0 1 9;", 1);
        bad(TWO + " ".repeat(374) + "way 0 1 9", 1, 400);
        says("'places' N ';' (2 .. 12; once, the first clause)");
        good("places 2;out 0 1;", 0);
        good("places 12;out 0 1;", 0);
        due("12 places", Check.pit("places 12;out 0 1;").count(0), 12);
        due("2 places", Check.pit("places 2;out 0 1;").count(0), 2);
        bad("places 0;out 0 1;", 2, 7);
        bad("places 1;out 0 1;", 2, 7);
        bad("places 13;out 0 1;", 2, 7);
        bad("places 999;out 0 1;", 2, 7);
        bad("places 2;places 2;out 0 1;", 1, 9);
        bad("places 2;out 0 1;places 2;", 1, 17);
        bad("out 0 1;places 2;", 1, 0);
        bad("way 0 1 9;places 2;out 0 1;", 1, 0);
    }

    private void out() {
        says("'out' P M ';' (PLACE P is the shaft, M men a minute, 1 .. 9; once)");
        for (int p = 0; p < 3; p++) {
            LastLamps x = Check.pit("places 3;out " + p + " 1;");
            due("the shaft " + p, x.count(6), p);
            due("none else is the shaft", x.open(0, 99, false), 1 << p);
        }
        bad("places 3;out 3 1;", 2, 13);
        bad("places 12;out 12 1;", 2, 14);
        due("the shaft 11", Check.pit("places 12;out 11 1;").count(6), 11);
        for (int m = 1; m <= 9; m++) due("lifts " + m, Check.pit("places 2;out 1 " + m + ";").count(7), m);
        bad("places 2;out 1 0;", 2, 15);
        bad("places 2;out 1 10;", 2, 15);
        bad("places 2;out 1 1;out 1 1;", 3, 17);
    }

    private void ways() {
        plain("'way' A B L");
        says("(24 at most;");
        good(TWO + "way 0 1 9;".repeat(24), 24);
        bad(TWO + "way 0 1 9;".repeat(25), 4, 257);
        due("the last of 24", Check.pit(TWO + "way 0 1 9;".repeat(23) + "way 1 0 8;").way(23, 2), 8);
        good(TWO, 0);
        manyWays();
        says("PLACES A, B, unlike;");
        good("places 3;out 0 1;way 0 2 9;way 2 0 9;", 2);
        bad("places 3;out 0 1;way 3 2 9;", 2, 21);
        bad("places 3;out 0 1;way 2 3 9;", 2, 23);
        bad("places 3;out 0 1;way 0 0 9;", 5, 23);
        bad("places 3;out 0 1;way 2 2 9;", 5, 23);
        good("places 12;out 0 1;way 11 10 9;", 1);
        says("L 1 .. 30 minutes with a light;");
        for (int l = 1; l <= 30; l++) {
            LastLamps x = Check.pit(TWO + "way 0 1 " + l + ";");
            due("L " + l, x.way(0, 2), l);
            due("walked with a light in " + l, x.soonest(1, 0, 0, 99, false), l);
        }
        bad(TWO + "way 0 1 0;", 2, 25);
        bad(TWO + "way 0 1 31;", 2, 25);
    }

    /** Of 24 ways between two places three are short, whichever they are. */
    private void manyWays() {
        for (int k = 0; k < 22; k++) {
            StringBuilder text = new StringBuilder("places2;out0 9;");
            for (int i = 0; i < 24; i++) text.append("way0 1 ").append(i < k || i > k + 2 ? 30 : i - k + 1).append("wide1;");
            LastLamps x = Check.pit(text.toString());
            for (int i = 0; i < 8; i++) x.man(1, i == 0, false);
            x.lamp(1, 50);
            x.go(1);
            x.go(0);
            int[] most = {0, 1, 3, 6, 8};
            for (int t = 0; t < 5; t++) due("most by " + k + ", to " + t, x.most(t), most[t]);
            for (int t = 0; t < 5; t++) due("cut by " + k + ", to " + t, x.cut(t), t < 4 ? 2 : 0);
            due("soonest by " + k, x.soonest(1, 0, 7, 50, false), 8);
            due("last by " + k, x.last(1, 50, false), 49);
            due("open by " + k, x.open(49, 50, false), 3);
            due("up by " + k, x.up(0, 1), 1);
            due("judge by " + k, x.judge(0, 7, 50, 1), 8);
            due("safest by " + k, x.safest(1, 0, 50), 1000000);
            due("knock by " + k, x.knock(0, 10), 70);
            x.fall(k, true);
            due("soonest, " + k + " has fallen", x.soonest(1, 0, 7, 50, false), 9);
        }
    }

    private void dark() {
        says("D 1 .. 60 without, at least L: without the word none goes there in the dark;");
        int[][] ds = {{1, 1}, {1, 60}, {30, 30}, {30, 60}, {7, 8}};
        for (int[] d : ds) {
            LastLamps x = Check.pit(TWO + "way 0 1 " + d[0] + " dark " + d[1] + ";");
            due("D " + d[1], x.way(0, 3), d[1]);
            due("walked in the dark in " + d[1], x.soonest(1, 0, 0, NONE, false), d[1]);
        }
        bad(TWO + "way 0 1 1 dark 0;", 2, 32);
        bad(TWO + "way 0 1 1 dark 61;", 2, 32);
        bad(TWO + "way 0 1 30 dark 29;", 2, 33);
        bad(TWO + "way 0 1 2 dark 1;", 2, 32);
        LastLamps y = Check.pit(WAY + ";");
        due("D without the word", y.way(0, 3), NONE);
        due("walked in the dark", y.soonest(1, 0, 0, NONE, false), NONE);
        due("walked with a light", y.soonest(1, 0, 0, 9, false), 9);
    }

    private void wide() {
        says("W 1 .. 9 men a minute may go in, each way (9 untold);");
        for (int w = 1; w <= 9; w++) {
            LastLamps x = Check.pit("places 2;out 0 9;way 0 1 1 wide " + w + ";");
            LastLamps back = Check.pit("places 2;out 0 9;way 1 0 1 wide " + w + ";");
            due("W " + w, x.way(0, 4), w);
            for (int i = 0; i < 8; i++) due("man", x.man(1, true, false) + back.man(1, true, false), 2 * i);
            due("go in at 0", x.most(1), Math.min(8, w));
            due("go in at 0 from A", back.most(1), Math.min(8, w));
            due("go in at 0 and 1", x.most(2), Math.min(8, 2 * w));
        }
        bad(WAY + " wide 0;", 2, 32);
        bad(WAY + " wide 10;", 2, 32);
        due("untold", Check.pit(WAY + ";").way(0, 4), 9);
    }

    private void fills() {
        says("F 0 .. 99: one must be through by minute F (99 untold);");
        int[] fs = {0, 1, 8, 9, 10, 50, 98, 99};
        for (int f : fs) {
            LastLamps x = Check.pit(WAY + " fills " + f + ";");
            due("F " + f, x.way(0, 5), f);
            if (f >= 9) due("through at " + f, x.soonest(1, 0, f - 9, 99, false), f);
            due("through behind " + f, x.soonest(1, 0, Math.max(0, f - 8), 99, false), NONE);
            due("the last minute", x.last(1, 99, false), f >= 9 ? f - 9 : NONE);
        }
        bad(WAY + " fills 100;", 2, 33);
        LastLamps y = Check.pit(WAY + " dark 9;");
        due("untold", y.way(0, 5), 99);
        due("untold, through at 99", y.soonest(1, 0, 90, NONE, false), 99);
        due("untold, through at 100", y.soonest(1, 0, 91, NONE, false), NONE);
    }

    private void bad() {
        says("C 0 .. 999: each minute it goes bad by C of a thousand (0 untold)).");
        int[] cs = {0, 1, 500, 998, 999};
        for (int c : cs) {
            LastLamps x = Check.pit(WAY + " bad " + c + ";");
            due("C " + c, x.way(0, 6), c);
            due("after a minute", x.opens(0, 1), 1000000 - 1000 * c);
        }
        bad(WAY + " bad 1000;", 2, 31);
        LastLamps y = Check.pit(WAY + ";");
        due("untold", y.way(0, 6), 0);
        due("never bad", y.opens(0, 99), 1000000);
    }

    /** With each of the four words told or untold; out of their order, or twice, they cannot stand. */
    private void optionalWords() {
        says("['dark' D] ['wide' W] ['fills' F] ['bad' C] ';'");
        String[] words = {" dark 11", " wide 3", " fills 44", " bad 55"};
        int[] told = {11, 3, 44, 55}, untold = {NONE, 9, 99, 0};
        for (int set = 0; set < 16; set++) {
            StringBuilder text = new StringBuilder(WAY);
            for (int i = 0; i < 4; i++) text.append((set >> i & 1) != 0 ? words[i] : "");
            LastLamps x = Check.pit(text + ";");
            for (int i = 0; i < 4; i++) due(text + ", " + (3 + i), x.way(0, 3 + i), (set >> i & 1) != 0 ? told[i] : untold[i]);
        }
        for (int i = 0; i < 4; i++) {
            for (int j = 0; j <= i; j++) bad(WAY + words[i] + words[j] + ";", 1, WAY.length() + words[i].length() + 1);
        }
    }

    // ---- signs

    private void figures() {
        says("NUMBERS have one to three figures;");
        good("places 2;out 0 1;", 0);
        good("places 02;out 00 01;", 0);
        good("places 002;out 000 001;way 000 001 030 dark 060 wide 009 fills 099 bad 999;", 1);
        bad("places 0002;out 0 1;", 2, 7);
        bad("places 2;out 0000 1;", 2, 13);
        bad("places 2;out 0 0001;", 2, 15);
        bad("places ;out 0 1;", 1, 7);
        due("012 is twelve", Check.pit("places 012;out 010 1;").count(0), 12);
        due("010 is ten", Check.pit("places 012;out 010 1;").count(6), 10);
        due("100 less 1", Check.pit(WAY + " bad 100;").way(0, 6), 100);
        // Each sign behind a number: a figure makes it longer, else only the end of the clause can stand.
        for (int c = 0; c < 256; c++) {
            String text = "places 2" + (char) c + "out 0 1;";
            if (c == ';') good(text, 0);
            else if (c >= '0' && c <= '9') bad(text, 2, 7);
            else bad(text, 1, c == ' ' ? 9 : 8);
        }
    }

    private void letters() {
        says("words are letters a .. z side by side;");
        // Each sign behind a word: a letter makes it another word.
        for (int c = 0; c < 256; c++) {
            String text = "places" + (char) c + "2;out 0 1;";
            if (c >= 'a' && c <= 'z') bad(text, 1, 0);
            else if (c == ' ' || c == '0' || c == '1') good(text, 0);
            else if (c >= '2' && c <= '9') bad(text, 2, 6);
            else bad(text, 1, 6);
        }
        bad("Places 2;out 0 1;", 1, 0);
        bad("plaCes 2;out 0 1;", 1, 0);
        bad("placeS 2;out 0 1;", 1, 0);
        bad("place 2;out 0 1;", 1, 0);
        bad("places 2;Out 0 1;", 1, 9);
        bad(TWO + "ways 0 1 9;", 1, 17);
        bad(TWO + "wa 0 1 9;", 1, 17);
        bad(WAY + " darks 9;", 1, 27);
        bad(WAY + " dar 9;", 1, 27);
        bad(WAY + " widen 9;", 1, 27);
        bad(WAY + " fill 9;", 1, 27);
        bad(WAY + " b 9;", 1, 27);
    }

    private void blanks() {
        says("blanks (32) may stand anywhere but within words and NUMBERS;");
        String[] parts = {"places", " ", "3", ";", "out", " ", "1", " ", "2", ";", "way", " ", "0", " ", "2", " ", "9",
            "dark", " ", "9", "wide", " ", "9", "fills", " ", "9", "bad", " ", "9", ";"};
        for (int i = 0; i <= parts.length; i++) {
            StringBuilder text = new StringBuilder();
            for (int j = 0; j <= parts.length; j++) text.append(j == i ? "  " : "").append(j < parts.length ? parts[j] : "");
            good(text.toString(), 1);
        }
        bad("pla ces 2;out 0 1;", 1, 0);
        bad("places 2;o ut 0 1;", 1, 9);
        bad(TWO + "w ay 0 1 9;", 1, 17);
        bad("places 1 2;out 0 1;", 2, 7);
        bad("places 2 2;out 0 1;", 1, 9);
        bad(TWO + "way 0 1 1 0;", 1, 27);
        bad("places\t2;out 0 1;", 1, 6);
        bad("places 2;\nout 0 1;", 1, 9);
        bad("places 2;out 0 1;\u00a0", 1, 17);
        says("two words, two NUMBERS side by side need one.");
        good("places3;out1 2;way0 2 9dark9wide9fills9bad9;", 1);
        bad("places 3;out 12;", 2, 13);
        bad("places 3;out 01;", 1, 15);
        bad(TWO + "way 01 0;", 1, 25);
        bad(TWO + "way 0 19;", 2, 23);
        bad(WAY + "darkwide 9;", 1, 26);
        bad("placesout 2;", 1, 0);
    }

    // ---- faults

    private void firstByte() {
        says("FAULTS, at the first byte that has one (the end at the text's length), of these the least:");
        // The first byte, though a lesser fault comes behind it.
        bad("places 2;way 1 1 9 x", 5, 15);
        bad("places 2;way 1 1 99", 5, 15);
        bad("places 13;x", 2, 7);
        bad(TWO + "out 9 9;x", 3, 17);
        bad(TWO + "way 0 1 9;".repeat(24) + "way 0 0 99;x", 4, 257);
        bad("places 2;way 0 1 99;way 0 0 9;", 2, 17);
        bad("places 2 13;", 1, 9);
        // At one byte the least: 1 and 2, 1 and 3, 1 and 4, 2 and 5.
        bad("places 2 9999;", 1, 9);
        bad(WAY + " 9999;", 1, 27);
        bad(TWO + "out", 3, 17);
        bad(WAY + " out 0 1;", 1, 27);
        bad("places 2;out 0 1 out 0 1;", 1, 17);
        bad(TWO + "way 0 1 9;".repeat(23) + "way 0 1 9 way 0 1 9;", 1, 257);
        bad(TWO + "way 0 0000 9;", 2, 23);
        bad(TWO + "way 1 0001 9;", 2, 23);
        // The end, wherever the text is cut: a word that is cut cannot stand, else the end cannot.
        for (int n = 0; n < CUT.length(); n++) {
            if (n == 17) good(CUT.substring(0, n), 0);
            else bad(CUT.substring(0, n), 1, cutFault(n));
        }
        good(CUT, 1);
        bad("places 2 ", 1, 9);
        bad("places 2;  ", 1, 11);
    }

    private static final String CUT = "places 3;out 1 2;way 0 2 5 dark 7 wide 3 fills 9 bad 4;";

    private static boolean isLetter(int at) {
        return CUT.charAt(at) >= 'a' && CUT.charAt(at) <= 'z';
    }

    /** Where the fault is, if CUT ends at n: at the first letter of a word that is cut, or at n. */
    private static int cutFault(int n) {
        int at = n;
        if (n > 0 && isLetter(n - 1) && isLetter(n)) while (at > 0 && isLetter(at - 1)) at--;
        return at;
    }

    private void faultOne() {
        says("1 it cannot stand there (a word that cannot: at its first letter; the end without 'places' or 'out').");
        bad("", 1, 0);
        bad("   ", 1, 3);
        bad("places 2;", 1, 9);
        bad("places 2;way 0 1 9;", 1, 19);
        bad("places 2;way 0 1 9;  ", 1, 21);
        bad("  word 2;", 1, 2);
        bad("places 2;  word;", 1, 11);
        bad("places out;", 1, 7);
        bad("places 2 out 0 1;", 1, 9);
        bad("places 2;out dark;", 1, 13);
        bad("places 2;out 0 wide;", 1, 15);
        bad(TWO + "way dark;", 1, 21);
        bad(TWO + "way 0 bad;", 1, 23);
        bad(TWO + "way 0 1 dark 9;", 1, 25);
        bad(TWO + "way 0 1 9 places 2;", 1, 27);
        bad(WAY + " dark wide 9;", 1, 32);
        bad(WAY + " bad 9 way 0 1 9;", 1, 33);
        bad(TWO + "dark 9;", 1, 17);
        bad(TWO + "9;", 1, 17);
        bad(TWO + ";", 1, 17);
        bad("places 2;;out 0 1;", 1, 9);
        bad(";places 2;out 0 1;", 1, 0);
        bad("places -2;", 1, 7);
        bad("\u0000", 1, 0);
        bad("\u00ff", 1, 0);
    }

    private void faultTwo() {
        says("2 a NUMBER of four figures or more, or out of its bounds, D less than L (at its first).");
        bad("places 1000;", 2, 7);
        bad("places 00000000000000000002;", 2, 7);
        bad("places   0002;", 2, 9);
        bad("places 4294967298;", 2, 7);
        bad("places 18446744073709551618;", 2, 7);
        bad(TWO + "way 0001 0 9;", 2, 21);
        bad(TWO + "way 0 1 0009;", 2, 25);
        bad(WAY + " dark 0009;", 2, 32);
        bad(WAY + " wide 0009;", 2, 32);
        bad(WAY + " fills 0009;", 2, 33);
        bad(WAY + " bad 0009;", 2, 31);
        bad(WAY + " dark   8;", 2, 34);
        bad(WAY + " dark 008;", 2, 32);
        bad("places 2;out 2 1;", 2, 13);
        bad("places 13", 2, 7);
    }

    private void faultsThreeToFive() {
        says("3 'out' again (at its first letter).");
        bad("places 2;out 0 1;out 0 1;", 3, 17);
        bad("places 2;out 0 1;  out 1 2;", 3, 19);
        bad("places 2;out 0 1;way 0 1 9;out", 3, 27);
        says("4 a 25th WAY (at its first letter).");
        bad(TWO + "way 0 1 9;".repeat(24) + "  way", 4, 259);
        bad("places 2;" + "way 0 1 9;".repeat(25) + "out 0 1;", 4, 249);
        good("places 2;" + "way 0 1 9;".repeat(24) + "out 0 1;", 24);
        says("5 a B that is its A (at it).");
        bad(TWO + "way 1 1 9;", 5, 23);
        bad(TWO + "way 1   01 9;", 5, 25);
        bad(TWO + "way 001 1 9;", 5, 25);
        bad(TWO + "way 0 1 9;way 0 0 9;", 5, 33);
    }

    // ---- promises 1 to 7

    private void noPit() {
        says("At first there is no PIT: no PLACES, no shaft.");
        LastLamps x = new LastLamps();
        due("places", x.count(0), 0);
        due("shaft", x.count(6), NONE);
        due("place 0", x.go(0), UNKNOWN);
        due("open to the shaft", x.open(0, 99, false), 0);
        due("the most", x.most(60), NOT);
        due("the cut", x.cut(0), NOT);
        due("up", x.up(0, NONE), NOT);
    }

    private void newObject() {
        plain("## Terms");
        plain("## Promise 1: A new object");
        says("`LastLamps()`: There is no PIT; no MEN, no LAMPS.");
        LastLamps x = new LastLamps();
        for (int i = 0; i < 9; i++) due("count " + i, x.count(i), i == 6 ? NONE : 0);
        due("way 0", x.way(0, 0), UNKNOWN);
        due("man 0", x.told(0, 0), UNKNOWN);
        due("lamp 0", x.light(0, 0), UNKNOWN);
        due("image 0", x.goBack(0), NOT);
        due("image 1", x.goBack(1), NOT);
        due("another is as new", Check.pit(TWO).count(0) + new LastLamps().count(0), 2);
    }

    private void feed() {
        plain("## Promise 2: feed");
        says("`int feed(int n, long bytes)`: The lowest n bytes (1 .. 8) of a long, the highest of these first, come behind THE TEXT: how many it has.");
        String text = TWO + "way 0 1 9;";
        for (int n = 1; n <= 8; n++) {
            LastLamps x = new LastLamps();
            int fed = 0;
            for (; fed + n <= text.length(); fed += n) {
                // What stands above the lowest n bytes does not count.
                long bytes = 0x7a7a7a7a7a7a7a7aL;
                for (int i = 0; i < n; i++) bytes = bytes << 8 | text.charAt(fed + i);
                due("feed " + n, x.feed(n, bytes), fed + n);
            }
            for (; fed < text.length(); fed++) due("feed 1", x.feed(1, -256L | text.charAt(fed)), fed + 1);
            due("pit fed by " + n, x.pit(), 1);
        }
        says("OUTSIDE, FULL (400).");
        LastLamps y = new LastLamps();
        int[] wrong = {0, -1, 9, 10, 256, MIN, MAX};
        for (int n : wrong) due("feed " + n, y.feed(n, 0), OUTSIDE);
        for (int i = 1; i <= 49; i++) due("feed 8", y.feed(8, 0), 8 * i);
        due("feed 1", y.feed(1, 0), 393);
        due("feed 8 to 401", y.feed(8, 0), FULL);
        due("feed 7 to 400", y.feed(7, 0), 400);
        for (int n = 1; n <= 8; n++) due("feed " + n + " behind 400", y.feed(n, 0), FULL);
        due("feed 9 behind 400", y.feed(9, 0), OUTSIDE);
        due("feed 0 behind 400", y.feed(0, 0), OUTSIDE);
        due("bytes", y.count(5), 400);
    }

    private void pitEmptiesText() {
        plain("## Promise 3: pit");
        says("`int pit()`: THE TEXT (it is empty then, with a FAULT, too) becomes THE PIT");
        LastLamps x = new LastLamps();
        Check.feed(x, TWO);
        due("pit", x.pit(), 0);
        due("empty", x.count(5), 0);
        due("pit of the empty text", x.pit(), -11);
        Check.feed(x, TWO + "x");
        due("pit with a fault", x.pit(), -11);
        due("empty", x.count(5), 0);
        due("the next feed is the first", x.feed(1, 'p'), 1);
        due("pit of p", x.pit(), -11);
        Check.feed(x, TWO);
        due("nothing of the other is left", x.pit(), 0);
        Check.feed(x, " ".repeat(400));
        due("pit of 400 blanks", x.pit(), -11);
        due("its end", x.fault(), 400);
        due("room again", x.feed(8, 0), 8);
        // Whatever text there was before, of it nothing stands behind the end of the next one.
        String[] before = {CUT, "x".repeat(400), "9".repeat(400), ";".repeat(400), " ".repeat(400)};
        for (String text : before) {
            for (int n = 0; n < CUT.length(); n++) {
                LastLamps y = Check.pit(text);
                Check.feed(y, CUT.substring(0, n));
                due("cut at " + n + " behind " + text, y.pit(), n == 17 ? 0 : -11);
                due("fault, cut at " + n + " behind " + text, y.fault(), n == 17 ? NONE : cutFault(n));
            }
        }
    }

    /** Four places, 24 ways; men, lamps, a row, fallen ways, and both images. */
    private static LastLamps inUse() {
        LastLamps x = Check.pit("places 4;out 3 2;" + "way 0 3 1;".repeat(24));
        for (int i = 0; i < 8; i++) x.man(i % 4, i % 2 == 0, i % 3 == 0);
        for (int i = 0; i < 4; i++) x.lamp(i, 10 * i);
        for (int i = 0; i < 12; i++) x.go(i % 4);
        for (int k = 0; k < 24; k++) x.fall(k, true);
        x.keep(0);
        x.keep(1);
        return x;
    }

    private void pitTakesAll() {
        says("(MEN, LAMPS, THE ROW are none then, nothing is FALLEN; IMAGES are gone): how many WAYS;");
        LastLamps x = inUse();
        Check.feed(x, "places 5;out 2 7;" + "way 0 4 9;".repeat(24));
        due("24 ways", x.pit(), 24);
        int[] counts = {5, 24, 0, 0, 0, 0, 2, 7, 0};
        for (int i = 0; i < 9; i++) due("count " + i, x.count(i), counts[i]);
        for (int k = 0; k < 24; k++) due("fallen " + k, x.way(k, 7), 0);
        due("man 0", x.told(0, 0), UNKNOWN);
        due("lamp 0", x.light(0, 0), UNKNOWN);
        due("image 0", x.goBack(0), NOT);
        due("image 1", x.goBack(1), NOT);
        LastLamps y = inUse();
        Check.feed(y, TWO);
        due("no ways", y.pit(), 0);
        due("way 0", y.way(0, 0), UNKNOWN);
        due("place 2", y.go(2), UNKNOWN);
        due("man 0 again", y.man(0, true, false), 0);
        due("lamp 0 again", y.lamp(0, 9), 0);
    }

    private void pitKeepsAll() {
        says("-10 less the number of its FAULT (all else is as it was).");
        String[] faults = {"x", "places 1;", TWO + "out 0 1;", TWO + "way 0 1 9;".repeat(25), TWO + "way 0 1 9;way 0 0 9;"};
        for (int i = 0; i < 5; i++) {
            LastLamps x = inUse();
            Check.feed(x, faults[i]);
            due("fault " + (i + 1), x.pit(), -11 - i);
            int[] counts = {4, 24, 8, 4, 12, 0, 3, 2, 4};
            for (int c = 0; c < 9; c++) due("count " + c, x.count(c), counts[c]);
            int[] facts = {0, 3, 1, NONE, 9, 99, 0, 1};
            for (int w = 0; w < 8; w++) due("way 0, " + w, x.way(0, w), facts[w]);
            due("man 7", x.told(7, 0), 3);
            due("lamp 3", x.light(3, 1), 30);
            due("image 0", x.goBack(0), 1);
            due("image 1", x.goBack(1), 1);
            due("fallen", x.way(23, 7), 1);
        }
    }

    private void fault() {
        plain("## Promise 4: fault");
        says("`int fault()`: The place (from 0 on) of the byte that has the FAULT of the latest pit(); NONE.");
        LastLamps x = new LastLamps();
        due("no pit() yet", x.fault(), NONE);
        Check.feed(x, "x");
        due("before pit()", x.fault(), NONE);
        due("pit", x.pit(), -11);
        due("byte 0", x.fault(), 0);
        Check.feed(x, TWO);
        due("before the next pit()", x.fault(), 0);
        due("pit", x.pit(), 0);
        due("none", x.fault(), NONE);
        Check.feed(x, "places 1;");
        due("pit", x.pit(), -12);
        due("byte 7", x.fault(), 7);
        due("pit", x.pit(), -11);
        due("of the latest: byte 0", x.fault(), 0);
        Check.feed(x, TWO + " ".repeat(382) + "x");
        due("pit", x.pit(), -11);
        due("byte 399", x.fault(), 399);
    }

    private void way() {
        plain("## Promise 5: way");
        says("`int way(int k, int what)`: Of a WAY: what = 0 A, 1 B, 2 L, 3 D (NONE), 4 W, 5 F, 6 C, 7 FALLEN (1, 0).");
        LastLamps x = Check.pit("places 12;out 0 1;way 11 10 30 dark 60 wide 8 fills 77 bad 666;way 0 1 2;");
        int[] first = {11, 10, 30, 60, 8, 77, 666, 0}, second = {0, 1, 2, NONE, 9, 99, 0, 1};
        x.fall(1, true);
        for (int i = 0; i < 8; i++) {
            due("way 0, " + i, x.way(0, i), first[i]);
            due("way 1, " + i, x.way(1, i), second[i]);
        }
        says("UNKNOWN, OUTSIDE.");
        int[] ks = {-1, 2, 24, MIN, MAX}, whats = {-1, 8, MIN, MAX};
        for (int k : ks) due("way " + k, x.way(k, 0), UNKNOWN);
        for (int w : whats) due("what " + w, x.way(1, w), OUTSIDE);
        due("both", x.way(2, 8), UNKNOWN);
    }

    private void fall() {
        plain("## Promise 6: fall");
        says("`int fall(int k, boolean is)`: A WAY falls (is = true), or is clear: what it was (1, 0). UNKNOWN.");
        LastLamps x = Check.pit(TWO + "way 0 1 9;".repeat(24));
        due("clear as it was", x.fall(23, false), 0);
        due("falls", x.fall(23, true), 0);
        due("falls again", x.fall(23, true), 1);
        due("fallen", x.way(23, 7), 1);
        due("the one before is not", x.way(22, 7), 0);
        due("is clear", x.fall(23, false), 1);
        due("not fallen", x.way(23, 7), 0);
        int[] ks = {-1, 24, MIN, MAX};
        for (int k : ks) due("way " + k, x.fall(k, true), UNKNOWN);
        due("a way of three", Check.pit(TWO + "way 0 1 9;".repeat(3)).fall(3, true), UNKNOWN);
    }

    private void count() {
        plain("## Promise 7: count");
        says("`int count(int what)`: How many: 0 PLACES, 1 WAYS, 2 MEN, 3 LAMPS, 4 PLACES of THE ROW, 5 bytes of THE TEXT, 6 the shaft's PLACE (NONE), 7 M (0), 8 MEN who KNOW. OUTSIDE.");
        LastLamps x = inUse();
        x.feed(7, 0);
        int[] full = {4, 24, 8, 4, 12, 7, 3, 2, 4}, none = {0, 0, 0, 0, 0, 0, NONE, 0, 0};
        LastLamps y = new LastLamps();
        for (int i = 0; i < 9; i++) {
            due("count " + i, x.count(i), full[i]);
            due("new, count " + i, y.count(i), none[i]);
        }
        int[] whats = {-1, 9, MIN, MAX};
        for (int w : whats) due("count " + w, x.count(w), OUTSIDE);
        for (int m = 0; m < 8; m++) x.moves(m, 0, true);
        due("all know", x.count(8), 8);
        for (int m = 0; m < 8; m++) x.moves(m, 0, false);
        due("none knows", x.count(8), 0);
    }
}
