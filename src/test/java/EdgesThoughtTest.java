/** Boundary cases of promises 15 to 19, sentence by sentence: what would be, and the line. */
public final class EdgesThoughtTest {
    private static final int NONE = Edges.NONE, BAD = Edges.BAD, STATE = Edges.STATE;
    private static final int OUTSIDE = Edges.OUTSIDE;
    private static final int MOST = Edges.MOST, LEAST = Edges.LEAST;

    private static final Edges EDGES = new Edges();
    private static final Desk FULL_DESK = Desk.full();
    /** 24 bars, and yet ten freedoms. */
    private static final Desk LOOSE_24 = Desk.bars(12, Desk.SEVEN + " 78 9a ab");

    public static void main(String[] args) {
        withoutPlaces();
        withoutACarrying();
        withoutAnOvertied();
        withPins();
        withMore();
        withAsItIs();
        withBeyond24();
        lackingOutside();
        lackingNothing();
        lackingOfFewPins();
        lackingMost();
        lackingInOrder();
        lackingTillStiff();
        lackingBeyond24();
        downWhats();
        downWhatFirst();
        downOfTooFewPins();
        downOfLoose();
        downOfExtra();
        downStateFirst();
        downOutside();
        downOfTwoAndThree();
        downOfTwelve();
        downTwosFirst();
        downThrees();
        downNoBarBetween();
        downLeftStiff();
        downLastOfThree();
        downBarThatCame();
        lineOfNoBars();
        lineShortest();
        lineLongest();
        lineLesserFirst();
        lineNone();
        EDGES.close();
    }

    private static void due(String call, int got, int want) {
        EDGES.due(call, got, want);
    }

    // ---- 15: without

    private static void withoutPlaces() {
        EDGES.says(15, "-12");
        EDGES.outsidePlaces("without", Desk.empty(), 0, PebbleBars::without);
        EDGES.outsidePlaces("without", Desk.pins(12), 0, PebbleBars::without);
        EDGES.outsidePlaces("without", Desk.bars(2, "01"), 1, PebbleBars::without);
        EDGES.outsidePlaces("without", Desk.bars(12, Desk.FAN + " 13 24"), 23, PebbleBars::without);
        EDGES.outsidePlaces("without", FULL_DESK, 24, PebbleBars::without);
    }

    private static void withoutACarrying() {
        EDGES.says(15, "FREEDOMS, were the BAR at a PLACE not there", "one more");
        EDGES.same("the only bar", Desk.bars(2, "01"), x -> x.without(0), 4);
        EDGES.same("the first of a fan", Desk.bars(12, Desk.FAN), x -> x.without(0), 4);
        EDGES.same("the last of a fan", Desk.bars(12, Desk.FAN), x -> x.without(20), 4);
        EDGES.same("the last of 24 that carry or not", LOOSE_24, x -> x.without(23), 11);
        EDGES.same("one behind an extra one", Desk.bars(5, Desk.TETRA + " 34"), x -> x.without(6), 5);
    }

    private static void withoutAnOvertied() {
        EDGES.says(15, "FREEDOMS, were the BAR at a PLACE not there", "as many, if it is OVERTIED");
        EDGES.same("the first of four", Desk.bars(4, Desk.TETRA), x -> x.without(0), 3);
        EDGES.same("the extra one of four", Desk.bars(4, Desk.TETRA), x -> x.without(5), 3);
        EDGES.same("the first of 24", FULL_DESK, x -> x.without(0), 3);
        EDGES.same("the last of 24", FULL_DESK, x -> x.without(23), 3);
        EDGES.same("one of 24 that is not", FULL_DESK, x -> x.without(20), 4);
    }

    // ---- 16: with

    private static void withPins() {
        EDGES.says(16, "BAD: PINS, the same");
        EDGES.same("of no pins", Desk.empty(), x -> x.with(0, 0), BAD);
        EDGES.same("of one pin", Desk.pins(1), x -> x.with(0, 1), BAD);
        EDGES.badPins("with", Desk.pins(2), 2, PebbleBars::with);
        EDGES.badPins("with", FULL_DESK, 12, PebbleBars::with);
    }

    private static void withMore() {
        EDGES.says(16, "(more");
        EDGES.same("two pins", Desk.pins(2), x -> x.with(0, 1), 3);
        EDGES.same("two pins, turned", Desk.pins(2), x -> x.with(1, 0), 3);
        EDGES.same("twelve pins", Desk.pins(12), x -> x.with(11, 0), 23);
        EDGES.same("the bar that lacks", Desk.bars(12, Desk.TWO_TO_TEN), x -> x.with(0, 1), 3);
        EDGES.same("an extra one", Desk.bars(12, Desk.FAN), x -> x.with(1, 11), 3);
        EDGES.same("an extra one, loose", Desk.bars(5, "01 12 23 03 02"), x -> x.with(1, 3), 5);
    }

    private static void withAsItIs() {
        EDGES.says(16, "or as it is)");
        EDGES.same("the only bar", Desk.bars(2, "01"), x -> x.with(0, 1), 3);
        EDGES.same("the only bar, turned", Desk.bars(3, "01"), x -> x.with(1, 0), 5);
        EDGES.same("an extra one", Desk.bars(4, Desk.TETRA), x -> x.with(1, 3), 3);
        EDGES.same("of 24", FULL_DESK, x -> x.with(3, 5), 3);
        EDGES.same("of 24, loose", LOOSE_24, x -> x.with(10, 11), 10);
    }

    private static void withBeyond24() {
        EDGES.says(16, "were there a BAR", "of 24 BARS, too");
        EDGES.same("stiff", FULL_DESK, x -> x.with(1, 11), 3);
        EDGES.same("loose", LOOSE_24, x -> x.with(0, 11), 9);
    }

    // ---- 17: lacking

    /** Pairs as "01 0b ..". */
    private static void dueLacking(String where, Desk desk, String pairs) {
        String[] each = pairs.isEmpty() ? new String[0] : pairs.split(" ");
        EDGES.same(where + ": how many", desk, x -> x.lacking(NONE), each.length);
        for (int i = 0; i < each.length; i++) {
            int asked = i;
            int want = 100 * Character.digit(each[i].charAt(0), 12) + Character.digit(each[i].charAt(1), 12);
            EDGES.same(where + ": lacking(" + i + ")", desk, x -> x.lacking(asked), want);
        }
        EDGES.same(where + ": behind", desk, x -> x.lacking(each.length), OUTSIDE);
        EDGES.same(where + ": behind", desk, x -> x.lacking(each.length + 1), OUTSIDE);
    }

    private static void lackingOutside() {
        EDGES.says(17, "how many (i NONE), the i-th .. -12");
        for (int i : new int[] {-2, -3, 21, 22, 66, MOST, LEAST}) {
            EDGES.same("lacking(" + i + ")", Desk.pins(12), x -> x.lacking(i), OUTSIDE);
        }
        for (int i : new int[] {-2, 0, 1, MOST, LEAST}) {
            EDGES.same("stiff, lacking(" + i + ")", FULL_DESK, x -> x.lacking(i), OUTSIDE);
            EDGES.same("no pins, lacking(" + i + ")", Desk.empty(), x -> x.lacking(i), OUTSIDE);
        }
    }

    private static void lackingNothing() {
        EDGES.says(17, "till it is STIFF", "none, if it is already");
        dueLacking("two pins, a bar", Desk.bars(2, "01"), "");
        dueLacking("three pins, three bars", Desk.bars(3, "01 12 02"), "");
        dueLacking("four, an extra one", Desk.bars(4, Desk.TETRA), "");
        dueLacking("24 bars", FULL_DESK, "");
    }

    private static void lackingOfFewPins() {
        EDGES.says(17, "pairs of PINS p, q (p less than q");
        dueLacking("no pins", Desk.empty(), "");
        dueLacking("one pin", Desk.pins(1), "");
        dueLacking("two pins", Desk.pins(2), "01");
        dueLacking("three pins", Desk.pins(3), "01 02 12");
        dueLacking("four pins", Desk.pins(4), "01 02 03 12 13");
    }

    private static void lackingMost() {
        EDGES.says(17, "how many (i NONE), the i-th (100 p + q)", "21 at most");
        dueLacking("twelve pins", Desk.pins(12),
                "01 02 03 04 05 06 07 08 09 0a 0b 12 13 14 15 16 17 18 19 1a 1b");
    }

    private static void lackingInOrder() {
        EDGES.says(17, "(p less than q; by p, then q) are gone through; each between which a BAR more would be CARRYING comes");
        dueLacking("a square and a pin", Desk.bars(5, "01 12 23 03"), "02 04 14");
        dueLacking("bars of the last pin", Desk.bars(4, "03 13 23"), "01 02");
        dueLacking("two triangles", Desk.bars(6, "01 02 12 34 35 45"), "03 04 13");
        dueLacking("a bar of the last two", Desk.bars(12, Desk.FAN.substring(0, Desk.FAN.length() - 6) + " ab"), "0b");
    }

    private static void lackingTillStiff() {
        EDGES.says(17, "till it is STIFF");
        dueLacking("a bar lacks", Desk.bars(12, Desk.TWO_TO_TEN), "01");
        dueLacking("the last bar lacks", Desk.bars(12, Desk.FAN.substring(0, Desk.FAN.length() - 3)), "1b");
        dueLacking("a pin off a four", Desk.bars(5, Desk.TETRA), "04 14");
    }

    private static void lackingBeyond24() {
        EDGES.says(17, "(In thought.)", "of 24 BARS, too");
        dueLacking("24 bars, ten freedoms", LOOSE_24, "07 08 09 0a 0b 17 19");
    }

    // ---- 18: down

    private static void downWhats() {
        EDGES.says(18, "BAD: what");
        for (int what : new int[] {-1, 3, -2, 4, MOST, LEAST}) {
            EDGES.same("down(0, " + what + ")", Desk.bars(3, "01 02 12"), x -> x.down(0, what), BAD);
            EDGES.same("down(9, " + what + ")", Desk.bars(12, Desk.FAN), x -> x.down(9, what), BAD);
        }
        int[] wants = {0, 2, NONE};
        for (int what = 0; what < 3; what++) {
            int asked = what;
            EDGES.same("down(0, " + what + ")", Desk.bars(3, "01 02 12"), x -> x.down(0, asked), wants[what]);
        }
    }

    private static void downWhatFirst() {
        EDGES.says(18, "BAD: what; STATE .. -12");
        for (int what : new int[] {-1, 3, MOST, LEAST}) {
            EDGES.same("no pins, what " + what, Desk.empty(), x -> x.down(0, what), BAD);
            EDGES.same("extra, what " + what, FULL_DESK, x -> x.down(0, what), BAD);
            EDGES.same("outside, what " + what, Desk.bars(2, "01"), x -> x.down(0, what), BAD);
            EDGES.same("below, what " + what, Desk.bars(3, "01 02 12"), x -> x.down(-1, what), BAD);
        }
    }

    private static void dueNotDown(String where, Desk desk) {
        for (int what = 0; what < 3; what++) {
            int asked = what;
            EDGES.same(where + ", what " + what, desk, x -> x.down(0, asked), STATE);
        }
    }

    private static void downOfTooFewPins() {
        EDGES.says(18, "STATE: it can't be taken down so", "there are not two PINS");
        dueNotDown("no pins", Desk.empty());
        dueNotDown("one pin", Desk.pins(1));
    }

    private static void downOfLoose() {
        EDGES.says(18, "STATE: it can't be taken down so", "it is not STIFF");
        dueNotDown("two pins", Desk.pins(2));
        dueNotDown("two bars of three pins", Desk.bars(3, "01 12"));
        dueNotDown("a bar too few", Desk.bars(12, Desk.TWO_TO_TEN));
        dueNotDown("a stiff frame and a pin", Desk.bars(4, "01 12 02"));
    }

    private static void downOfExtra() {
        EDGES.says(18, "a STIFF frame without EXTRA BARS");
        dueNotDown("four, an extra one", Desk.bars(4, Desk.TETRA));
        dueNotDown("a wheel", Desk.bars(12, Desk.FAN + " 1b"));
        dueNotDown("24 bars", FULL_DESK);
        // As many bars as a stiff frame has, but one of them extra.
        dueNotDown("loose, with an extra one", Desk.bars(5, Desk.TETRA + " 34"));
        EDGES.same("when the extra one went", Desk.bars(4, Desk.TETRA).then(x -> x.off(1, 3)), x -> x.down(0, 0), 1);
    }

    private static void downStateFirst() {
        EDGES.says(18, "STATE .. -12");
        for (int i : new int[] {-1, 2, 12, MOST, LEAST}) {
            EDGES.same("extra, down(" + i + ", 0)", Desk.bars(4, Desk.TETRA), x -> x.down(i, 0), STATE);
            EDGES.same("loose, down(" + i + ", 0)", Desk.pins(2), x -> x.down(i, 0), STATE);
            EDGES.same("no pins, down(" + i + ", 0)", Desk.empty(), x -> x.down(i, 0), STATE);
        }
    }

    private static void downOutside() {
        EDGES.says(18, "-12");
        for (int what = 0; what < 3; what++) {
            int asked = what;
            for (int i : new int[] {-1, -2, 1, 2, MOST, LEAST}) {
                EDGES.same("three pins, down(" + i + ", " + what + ")", Desk.bars(3, "01 02 12"),
                        x -> x.down(i, asked), OUTSIDE);
            }
            for (int i : new int[] {-1, 10, 11, 12, 13, MOST, LEAST}) {
                EDGES.same("twelve pins, down(" + i + ", " + what + ")", Desk.bars(12, Desk.FAN),
                        x -> x.down(i, asked), OUTSIDE);
            }
        }
    }

    /** Steps as {pin, bars, bar that came}. */
    private static void dueDown(String where, Desk desk, int[][] wants) {
        for (int i = 0; i < wants.length; i++) {
            for (int what = 0; what < 3; what++) {
                int step = i;
                int asked = what;
                EDGES.same(where + ": down(" + i + ", " + what + ")", desk, x -> x.down(step, asked), wants[i][what]);
            }
        }
        EDGES.same(where + ": behind", desk, x -> x.down(wants.length, 0), OUTSIDE);
    }

    private static void downOfTwoAndThree() {
        EDGES.says(18, "as long as there are three PINS or more");
        dueDown("two pins", Desk.bars(2, "01"), new int[][] {});
        dueDown("three pins", Desk.bars(3, "01 02 12"), new int[][] {{0, 2, NONE}});
        dueDown("four pins", Desk.bars(4, "01 02 12 23 03"), new int[][] {{1, 2, NONE}, {0, 2, NONE}});
    }

    private static void downOfTwelve() {
        EDGES.says(18, "the i-th PIN that goes", "ten of twelve");
        int[][] fan = new int[10][];
        for (int i = 0; i < 10; i++) {
            fan[i] = new int[] {i == 9 ? 0 : i + 1, 2, NONE};
        }
        dueDown("a fan", Desk.bars(12, Desk.FAN), fan);
        int[][] ten = new int[10][];
        for (int i = 0; i < 10; i++) {
            ten[i] = new int[] {i == 9 ? 0 : i + 2, 2, NONE};
        }
        dueDown("two to ten", Desk.bars(12, Desk.TWO_TO_TEN + " 01"), ten);
    }

    private static void downTwosFirst() {
        EDGES.says(18, "the first PIN of two BARS goes with these; if there is none, the first of three BARS");
        // Pins 0 and 1 have three bars each, 3 and 4 two.
        dueDown("a two behind threes", Desk.bars(5, "01 02 12 23 03 14 24"),
                new int[][] {{3, 2, NONE}, {0, 2, NONE}, {1, 2, NONE}});
        // The last pin has two bars; without it all others have three.
        dueDown("the last one first", Desk.bars(7, "03 04 05 13 14 15 23 24 25 06 16"),
                new int[][] {{6, 2, NONE}, {0, 3, 304}, {5, 2, NONE}, {1, 2, NONE}, {2, 2, NONE}});
    }

    private static void downThrees() {
        EDGES.says(18, "the first of three BARS goes with these, and the first pair .. gets one");
        dueDown("three and three", Desk.bars(6, "03 04 05 13 14 15 23 24 25"),
                new int[][] {{0, 3, 304}, {5, 2, NONE}, {1, 2, NONE}, {2, 2, NONE}});
        dueDown("three and three, told backward", Desk.bars(6, "52 42 32 51 41 31 50 40 30"),
                new int[][] {{0, 3, 304}, {5, 2, NONE}, {1, 2, NONE}, {2, 2, NONE}});
    }

    private static void downNoBarBetween() {
        EDGES.says(18, "of its three neighbours between which there is no BAR");
        // Of two triangles with three bars across, 0 has 1, 2, 3; 1-2 is there.
        dueDown("a prism", Desk.bars(6, "01 02 12 34 35 45 03 14 25"),
                new int[][] {{0, 3, 103}, {2, 2, NONE}, {1, 2, NONE}, {3, 2, NONE}});
    }

    private static void downLeftStiff() {
        EDGES.says(18, "a BAR more would leave all that is left STIFF (without EXTRA)");
        // 0 has 1, 2, 3; there is no bar 1-2, but it would be extra in the stiff part 1, 2, 4, 5.
        dueDown("1-2 would be extra", Desk.bars(8, "01 02 14 15 24 25 45 36 37 67 03 46 57"),
                new int[][] {{0, 3, 103}, {2, 2, NONE}, {1, 3, 304}, {5, 2, NONE}, {4, 2, NONE}, {3, 2, NONE}});
    }

    private static void downLastOfThree() {
        EDGES.says(18, "the first pair (as above)", "the last of the three, if both others can't be");
        // 0 has 1, 2, 3; 1-2 and 1-3 are there. Then 1 has 2, 3, 6; 2-3 is there now.
        dueDown("two are there", Desk.bars(7, "01 02 03 12 13 45 46 56 24 35 16"),
                new int[][] {{0, 3, 203}, {1, 3, 206}, {3, 2, NONE}, {2, 2, NONE}, {4, 2, NONE}});
    }

    private static void downBarThatCame() {
        EDGES.says(18, "the BAR that came for it (2; 100 p + q, p less than q; NONE)");
        // The frame above with 10 and 11 for 2 and 3, and five pins more of two bars each.
        Desk desk = Desk.bars(12, "b5 a4 b0 a0 a1 b1 01 45 46 56 16 24 25 34 35 74 75 84 85 94 95");
        dueDown("10 and 11", desk, new int[][] {{2, 2, NONE}, {3, 2, NONE}, {7, 2, NONE}, {8, 2, NONE}, {9, 2, NONE},
            {0, 3, 1011}, {1, 3, 610}, {11, 2, NONE}, {5, 2, NONE}, {4, 2, NONE}});
        // Pin 0 has four bars; 1, the first of three, has 0, 3 and 4.
        dueDown("0 and 3", Desk.bars(7, "01 02 05 31 35 41 42 45 36 26 06"),
                new int[][] {{1, 3, 3}, {4, 2, NONE}, {2, 2, NONE}, {5, 2, NONE}, {0, 2, NONE}});
    }

    // ---- 19: line

    private static void lineOfNoBars() {
        EDGES.says(19, "i NONE: how many", "of no BARS");
        for (int pins : new int[] {0, 1, 12}) {
            EDGES.same(pins + " pins", Desk.pins(pins), x -> x.line(NONE), 0);
            EDGES.same(pins + " pins", Desk.pins(pins), x -> x.line(0), NONE);
            EDGES.same(pins + " pins", Desk.pins(pins), x -> x.line(1), NONE);
        }
    }

    private static void lineShortest() {
        EDGES.says(19, "Letter i of THE LINE .. with a blank between");
        Desk one = Desk.bars(3, "01");
        EDGES.same("how many", one, x -> x.line(NONE), 3);
        EDGES.same("first", one, x -> x.line(0), 'a');
        EDGES.same("second", one, x -> x.line(1), '-');
        EDGES.same("third", one, x -> x.line(2), 'b');
        EDGES.same("no blank behind", one, x -> x.line(3), NONE);
        Desk two = Desk.bars(3, "01 12");
        EDGES.same("how many of two", two, x -> x.line(NONE), 7);
        EDGES.same("a blank", two, x -> x.line(3), ' ');
        EDGES.same("behind it", two, x -> x.line(4), 'b');
        EDGES.same("the last of two", two, x -> x.line(6), 'c');
        EDGES.same("no blank behind", two, x -> x.line(7), NONE);
    }

    private static void lineLongest() {
        EDGES.says(19, "i NONE: how many", "of 24 BARS and NAMES of 4 letters");
        Desk desk = Desk.empty().then(x -> {
            for (int p = 0; p < 12; p++) {
                Checks.told(x, "pin abc" + (char) ('d' + p));
            }
            for (String pair : (Desk.FAN + " 13 24 35").split(" ")) {
                x.bar(Character.digit(pair.charAt(0), 12), Character.digit(pair.charAt(1), 12));
            }
        });
        EDGES.same("how many", desk, x -> x.line(NONE), 24 * 9 + 23);
        EDGES.same("the last", desk, x -> x.line(238), 'i');
        EDGES.same("the last but five", desk, x -> x.line(234), '-');
        EDGES.same("the last blank", desk, x -> x.line(229), ' ');
        EDGES.same("behind", desk, x -> x.line(239), NONE);
        StringBuilder want = new StringBuilder();
        for (String pair : (Desk.FAN + " 13 24 35").split(" ")) {
            want.append(want.length() == 0 ? "" : " ");
            want.append("abc").append((char) ('d' + Character.digit(pair.charAt(0), 12)));
            want.append("-abc").append((char) ('d' + Character.digit(pair.charAt(1), 12)));
        }
        PebbleBars x = desk.make();
        for (int i = 0; i < want.length(); i++) {
            due("line(" + i + ")", x.line(i), want.charAt(i));
        }
    }

    private static void lineLesserFirst() {
        EDGES.says(19, "the NAME of the lesser PIN, -, that of the greater");
        PebbleBars x = new PebbleBars();
        for (String name : "zzzz a mm bcd".split(" ")) {
            Checks.told(x, "pin " + name);
        }
        x.bar(1, 0);
        x.bar(3, 2);
        x.bar(2, 1);
        EDGES.dueLine("three", x, "zzzz-a mm-bcd a-mm");
        x.off(2, 3);
        x.bar(2, 3);
        EDGES.dueLine("comes again", x, "zzzz-a a-mm mm-bcd");
    }

    private static void lineNone() {
        EDGES.says(19, "NONE: there is none");
        for (int i : new int[] {-2, -3, 95, 96, 239, MOST, LEAST}) {
            EDGES.same("line(" + i + ") of 95", FULL_DESK, x -> x.line(i), NONE);
        }
        EDGES.same("how many", FULL_DESK, x -> x.line(NONE), 95);
        EDGES.same("the last", FULL_DESK, x -> x.line(94), 'f');
    }
}
