import java.util.ArrayList;
import java.util.Arrays;
import java.util.List;

/**
 * Refusals: every call with each of its arguments right or wrong, in every mixture. Which refusal
 * is due is told by the first in the document's order; and two objects that were made alike must
 * still answer alike, when one of them has refused a call.
 */
final class EdgesOfRefusals extends EdgesPart {
    /** A call with those of its arguments that may be wrong. */
    private interface Call {
        int of(LastLamps x, int[] a);
    }

    private interface Maker {
        LastLamps make();
    }

    private final List<String> changedBy = new ArrayList<>();
    private int refused = 0;

    EdgesOfRefusals(Edges edges) {
        super(edges);
    }

    @Override
    void look() {
        says("REFUSALS, of several the first in this order: UNKNOWN (a PLACE, WAY, MAN, LAMP, IMAGE that there is not), OUTSIDE (another number out of its bounds), NOT (not now, as told), FULL.");
        inUse();
        whenFull();
        withoutPit();
        whoCannotTell();
        wrongRow();
        says("What is refused changes nothing.");
        due("calls that were refused and compared", refused > 2000 ? 1 : 0, 1);
        for (String call : changedBy) due("something changed by " + call, 1, 0);
    }

    /** Wrong values of one argument, and the refusal that they are due. */
    private record Wrong(int refusal, int... values) { }

    private static final Wrong PLACE = new Wrong(UNKNOWN, -1, 5, 12, MIN, MAX);
    private static final Wrong PLACE_OR_NONE = new Wrong(UNKNOWN, -2, 5, 12, MIN, MAX);
    private static final Wrong WAY = new Wrong(UNKNOWN, -1, 4, 24, MIN, MAX);
    private static final Wrong MAN = new Wrong(UNKNOWN, -1, 4, 8, MIN, MAX);
    private static final Wrong LAMP = new Wrong(UNKNOWN, -1, 2, 4, MIN, MAX);
    private static final Wrong IMAGE = new Wrong(UNKNOWN, -1, 2, MIN, MAX);
    private static final Wrong SET = new Wrong(UNKNOWN, 1, 16, 32, 4096, -1, MIN);
    private static final Wrong MINUTE = new Wrong(OUTSIDE, -1, 100, MIN, MAX);
    private static final Wrong LIGHT = new Wrong(OUTSIDE, -2, 100, MIN, MAX);
    private static final Wrong LIFT = new Wrong(OUTSIDE, -1, 61, MIN, MAX);
    private static final Wrong MORE = new Wrong(OUTSIDE, -1, 8, MIN, MAX);
    private static final Wrong FEED = new Wrong(OUTSIDE, -1, 0, 9, MIN, MAX);
    private static final Wrong LOUD = new Wrong(OUTSIDE, -1, 1001, MIN, MAX);
    private static final Wrong ANY = new Wrong(0);

    private static Wrong upTo(int what) {
        return new Wrong(OUTSIDE, -1, what + 1, MIN, MAX);
    }

    /**
     * Five places, four ways, four men, two lamps, a row of three, image 0, some text. Men 0 and 3
     * know; those of 2 and 3 do not.
     */
    private static LastLamps used() {
        LastLamps x = Check.pit("places 5;out 1 2;way 1 0 3 dark 4;way 1 2 5 dark 5 bad 9;way 2 3 2 dark 2 wide 1;way 3 1 9 fills 30;");
        x.man(0, true, true);
        x.lamp(0, 33);
        x.fall(3, true);
        x.keep(0);
        x.man(2, false, false);
        x.man(3, false, true);
        x.man(1, true, false);
        x.lamp(2, 44);
        x.fall(1, true);
        x.fall(1, false);
        x.go(2);
        x.go(1);
        x.go(0);
        Check.feed(x, "places 3;out 2 7;way 0 1 9 wide ");
        return x;
    }

    private void inUse() {
        Maker m = EdgesOfRefusals::used;
        refusals("feed", m, 0, (x, a) -> x.feed(a[0], 0), new int[] {1}, FEED);
        refusals("way", m, 0, (x, a) -> x.way(a[0], a[1]), new int[] {0, 0}, WAY, upTo(7));
        refusals("fall", m, 0, (x, a) -> x.fall(a[0], true), new int[] {0}, WAY);
        refusals("clear of a fall", m, 0, (x, a) -> x.fall(a[0], false), new int[] {3}, WAY);
        refusals("count", m, 0, (x, a) -> x.count(a[0]), new int[] {0}, upTo(8));
        refusals("man", m, 0, (x, a) -> x.man(a[0], true, true), new int[] {0}, PLACE);
        refusals("lamp", m, 0, (x, a) -> x.lamp(a[0], a[1]), new int[] {0, 0}, PLACE, MINUTE);
        refusals("told", m, 0, (x, a) -> x.told(a[0], a[1]), new int[] {0, 0}, MAN, upTo(2));
        refusals("light", m, 0, (x, a) -> x.light(a[0], a[1]), new int[] {0, 0}, LAMP, upTo(1));
        refusals("moves", m, 0, (x, a) -> x.moves(a[0], a[1], true), new int[] {1, 0}, MAN, PLACE);
        refusals("soonest", m, 0, (x, a) -> x.soonest(a[0], a[1], a[2], a[3], false), new int[] {0, 0, 0, 0}, PLACE, PLACE, MINUTE, LIGHT);
        refusals("last", m, 0, (x, a) -> x.last(a[0], a[1], false), new int[] {1, 0}, PLACE, LIGHT);
        refusals("open", m, 0, (x, a) -> x.open(a[0], a[1], false), new int[] {0, 0}, MINUTE, LIGHT);
        refusals("most", m, 0, (x, a) -> x.most(a[0]), new int[] {60}, LIFT);
        refusals("cut", m, 0, (x, a) -> x.cut(a[0]), new int[] {60}, LIFT);
        refusals("up", m, 0, (x, a) -> x.up(a[0], a[1]), new int[] {0, 0}, MORE, PLACE_OR_NONE);
        refusals("up in all", m, 0, (x, a) -> x.up(a[0], -1), new int[] {0}, MORE);
        refusals("lent", m, 0, (x, a) -> x.lent(a[0], a[1]), new int[] {0, 0}, LAMP, PLACE);
        refusals("mark", m, 0, (x, a) -> x.mark(a[0], a[1], a[2]), new int[] {0, 0, 0}, LAMP, PLACE, MORE);
        refusals("tells", m, 0, (x, a) -> x.tells(a[0], a[1], a[2], a[3]), new int[] {3, 0, 0, 4}, MAN, LIGHT, MINUTE, SET);
        refusals("toldBest", m, 0, (x, a) -> x.toldBest(a[0], a[1], a[2], a[3]), new int[] {3, 0, 0, 0}, MAN, LIGHT, MINUTE, upTo(1));
        refusals("byTwo", m, 0, (x, a) -> x.byTwo(a[0], a[1], a[2], a[3], a[4], a[5]), new int[] {3, 0, 0, 0, 0, 0},
            new Wrong(UNKNOWN, -1, 4, 0), LIGHT, new Wrong(UNKNOWN, -1, 4, MAX), LIGHT, MINUTE, upTo(2));
        refusals("tooLate", m, 0, (x, a) -> x.tooLate(a[0], a[1], a[2]), new int[] {3, 0, 2}, MAN, LIGHT, new Wrong(UNKNOWN, -1, 0, 1, 4, 5, 34, MIN, MAX));
        refusals("go", m, 0, (x, a) -> x.go(a[0]), new int[] {0}, PLACE);
        refusals("judge", m, 0, (x, a) -> x.judge(a[0], a[1], a[2], a[3]), new int[] {1, 0, 0, 0}, MAN, MINUTE, LIGHT, upTo(1));
        refusals("opens", m, 0, (x, a) -> x.opens(a[0], a[1]), new int[] {0, 0}, WAY, MINUTE);
        refusals("safe", m, 0, (x, a) -> x.safe(a[0], a[1]), new int[] {0, 0}, MINUTE, LIGHT);
        refusals("safest", m, 0, (x, a) -> x.safest(a[0], a[1], a[2]), new int[] {0, 0, 0}, PLACE, MINUTE, LIGHT);
        refusals("knock", m, 0, (x, a) -> x.knock(a[0], a[1]), new int[] {0, 0}, PLACE, LOUD);
        refusals("keep", m, 0, (x, a) -> x.keep(a[0]), new int[] {0}, IMAGE);
        refusals("goBack", m, 0, (x, a) -> x.goBack(a[0]), new int[] {0}, IMAGE);
        refusals("goBack to what was not kept", m, NOT, (x, a) -> x.goBack(a[0]), new int[] {1}, IMAGE);
    }

    private static LastLamps full() {
        LastLamps x = used();
        for (int i = 0; i < 4; i++) x.man(i, true, false);
        for (int i = 0; i < 2; i++) x.lamp(i, 9);
        for (int i = 0; i < 9; i++) x.go(i % 2 == 0 ? 1 : 0);
        for (int i = 0; i < 46; i++) x.feed(8, 0x2020202020202020L);
        return x;
    }

    private void whenFull() {
        Maker m = EdgesOfRefusals::full;
        refusals("feed, full", m, FULL, (x, a) -> x.feed(a[0], 'x'), new int[] {1}, FEED);
        refusals("feed 8, full", m, FULL, (x, a) -> x.feed(a[0], -1), new int[] {8}, FEED);
        refusals("man, full", m, FULL, (x, a) -> x.man(a[0], true, false), new int[] {0}, PLACE);
        refusals("lamp, full", m, FULL, (x, a) -> x.lamp(a[0], a[1]), new int[] {0, 0}, PLACE, MINUTE);
        refusals("go, full", m, FULL, (x, a) -> x.go(a[0]), new int[] {0}, PLACE);
    }

    private void withoutPit() {
        Maker m = LastLamps::new;
        Wrong none = new Wrong(UNKNOWN, 0, 1, -1, MIN, MAX), noPlace = new Wrong(UNKNOWN, 0, 1, -2, MIN, MAX);
        refusals("most, no pit", m, NOT, (x, a) -> x.most(a[0]), new int[] {0}, LIFT);
        refusals("cut, no pit", m, NOT, (x, a) -> x.cut(a[0]), new int[] {0}, LIFT);
        refusals("up, no pit", m, NOT, (x, a) -> x.up(a[0], a[1]), new int[] {0, -1}, MORE, noPlace);
        refusals("safe, no pit", m, NOT, (x, a) -> x.safe(a[0], a[1]), new int[] {0, 0}, MINUTE, LIGHT);
        refusals("goBack, no pit", m, NOT, (x, a) -> x.goBack(a[0]), new int[] {0}, IMAGE);
        refusals("way, no pit", m, UNKNOWN, (x, a) -> x.way(0, a[0]), new int[] {0}, ANY);
        refusals("fall, no pit", m, UNKNOWN, (x, a) -> x.fall(0, true), new int[] {0}, ANY);
        refusals("man, no pit", m, UNKNOWN, (x, a) -> x.man(0, true, false), new int[] {0}, ANY);
        refusals("lamp, no pit", m, UNKNOWN, (x, a) -> x.lamp(0, a[0]), new int[] {0}, none);
        refusals("go, no pit", m, UNKNOWN, (x, a) -> x.go(a[0]), new int[] {0}, none);
    }

    /** Man 1 does not know; in the second pit there are seven places where some man does not. */
    private void whoCannotTell() {
        Maker m = EdgesOfRefusals::used;
        refusals("tells, does not know", m, NOT, (x, a) -> x.tells(a[0], a[1], a[2], a[3]), new int[] {1, 0, 0, 4}, MAN, LIGHT, MINUTE, SET);
        refusals("toldBest, does not know", m, NOT, (x, a) -> x.toldBest(a[0], a[1], a[2], a[3]), new int[] {1, 0, 0, 0}, MAN, LIGHT, MINUTE, upTo(1));
        refusals("tooLate, does not know", m, NOT, (x, a) -> x.tooLate(a[0], a[1], a[2]), new int[] {1, 0, 2}, MAN, LIGHT, new Wrong(UNKNOWN, -1, 0, 4, 5));
        refusals("byTwo, the first does not know", m, NOT, (x, a) -> x.byTwo(a[0], a[1], a[2], a[3], a[4], a[5]), new int[] {1, 0, 0, 0, 0, 0},
            new Wrong(UNKNOWN, -1, 4, MIN), LIGHT, new Wrong(UNKNOWN, -1, 4, 1), LIGHT, MINUTE, upTo(2));
        refusals("byTwo, the second does not know", m, NOT, (x, a) -> x.byTwo(a[0], a[1], a[2], a[3], a[4], a[5]), new int[] {3, 0, 2, 0, 0, 0},
            new Wrong(UNKNOWN, -1, 4, 2), LIGHT, new Wrong(UNKNOWN, -1, 4, MAX), LIGHT, MINUTE, upTo(2));
        Maker seven = EdgesOfRefusals::sevenUntold;
        refusals("tells, seven", seven, NOT, (x, a) -> x.tells(0, a[0], a[1], a[2]), new int[] {0, 0, 2}, LIGHT, MINUTE, new Wrong(UNKNOWN, 1, 256, -1));
        refusals("toldBest, seven", seven, NOT, (x, a) -> x.toldBest(0, a[0], a[1], a[2]), new int[] {0, 0, 0}, LIGHT, MINUTE, upTo(1));
        refusals("tooLate, seven", seven, NOT, (x, a) -> x.tooLate(0, a[0], a[1]), new int[] {0, 1}, LIGHT, new Wrong(UNKNOWN, 0, 8));
    }

    private static LastLamps sevenUntold() {
        LastLamps x = Check.pit("places 8;out 0 1;way 0 1 1 dark 1;way 0 2 1 dark 1;");
        x.man(0, true, false);
        for (int p = 1; p < 8; p++) x.man(p, false, false);
        return x;
    }

    private void wrongRow() {
        Maker m = () -> {
            LastLamps x = used();
            x.go(4);
            return x;
        };
        refusals("safe, wrong", m, NOT, (x, a) -> x.safe(a[0], a[1]), new int[] {0, 0}, MINUTE, LIGHT);
    }

    /**
     * Every mixture of right and wrong arguments: the first refusal that one of them is due, or
     * what is due to the right ones (0: these are not refused, and not looked at).
     */
    private void refusals(String name, Maker maker, int otherwise, Call call, int[] right, Wrong... wrongs) {
        for (int set = 0; set < 1 << wrongs.length; set++) {
            int due = otherwise == 0 ? MIN : otherwise;
            int variants = 1;
            for (int i = 0; i < wrongs.length; i++) {
                if ((set >> i & 1) == 0) continue;
                if (wrongs[i].refusal != 0) due = Math.max(due, wrongs[i].refusal);
                variants = Math.max(variants, wrongs[i].values.length);
            }
            if (due == MIN) continue;
            for (int v = 0; v < variants; v++) {
                int[] args = right.clone();
                for (int i = 0; i < wrongs.length; i++) {
                    int[] values = wrongs[i].values;
                    if ((set >> i & 1) != 0 && values.length > 0) args[i] = values[v % values.length];
                }
                compare(name + " " + Arrays.toString(args), maker, call, args, due);
            }
        }
    }

    private void compare(String name, Maker maker, Call call, int[] args, int due) {
        for (int part = 0; part < 3; part++) {
            LastLamps one = maker.make(), other = maker.make();
            int got = call.of(one, args);
            if (part == 0) due(name, got, due);
            refused++;
            if (!told(one, part).equals(told(other, part))) changedBy.add(name);
        }
    }

    /** What an object answers: 0 as it is, 1 when its text has become a pit, 2 back at its images. */
    private static List<Integer> told(LastLamps x, int part) {
        List<Integer> list = new ArrayList<>();
        if (part == 0) tellAll(x, list);
        if (part == 1) {
            list.add(x.feed(2, '7' << 8 | ';'));
            list.add(x.pit());
            tellAll(x, list);
        }
        if (part == 2) {
            list.add(x.goBack(1));
            tellMen(x, list);
            list.add(x.goBack(0));
            tellMen(x, list);
        }
        return list;
    }

    private static void tellMen(LastLamps x, List<Integer> list) {
        for (int i = 0; i < 9; i++) list.add(x.count(i));
        for (int m = 0; m < 8; m++) for (int w = 0; w < 3; w++) list.add(x.told(m, w));
        for (int l = 0; l < 4; l++) for (int w = 0; w < 2; w++) list.add(x.light(l, w));
        for (int k = 0; k < 5; k++) list.add(x.way(k, 7));
    }

    private static void tellAll(LastLamps x, List<Integer> list) {
        tellMen(x, list);
        list.add(x.fault());
        for (int k = 0; k < 5; k++) for (int w = 0; w < 8; w++) list.add(x.way(k, w));
        for (int t = 0; t < 9; t += 4) for (int m = 0; m < 8; m++) list.add(x.judge(m, t, 30, 1));
        for (int p = 0; p < 6; p++) list.add(x.last(p, 30, false));
        list.add(x.safe(0, 50));
        list.add(x.most(9));
        list.add(x.cut(9));
        list.add(x.up(1, -1));
        list.add(x.lent(0, 2));
        list.add(x.mark(1, 1, 0));
        list.add(x.toldBest(0, 50, 0, 0));
        list.add(x.byTwo(0, 50, 3, 20, 0, 0));
        list.add(x.knock(1, 500));
        list.add(x.clear());
    }
}
