/** Boundary cases of promises 5 to 10, sentence by sentence: bars and pins. */
public final class EdgesBarsTest {
    private static final int NONE = Edges.NONE, BAD = Edges.BAD, STATE = Edges.STATE, FULL = Edges.FULL;
    private static final int OUTSIDE = Edges.OUTSIDE;
    private static final int MOST = Edges.MOST, LEAST = Edges.LEAST;
    private static final int[] FAR_WHATS = {-1, -2, LEAST, MOST};

    private static final Edges EDGES = new Edges();
    private static final Desk FULL_DESK = Desk.full();
    private static final Desk TWENTY_THREE = Desk.bars(12, Desk.FAN + " 13 24");

    public static void main(String[] args) {
        barsOfNoPins();
        barsOfAllPins();
        placesInOrder();
        barIsThere();
        twentyFourBars();
        barRefusedFirst();
        fullAndRoomAgain();
        offOfNoPins();
        offOfNoBar();
        thoseBehindMoveUp();
        comesAgain();
        offTheOnlyOne();
        toldWhats();
        toldPinsAndBars();
        loose();
        looseOfSome();
        byPlaces();
        freedoms();
        stiff();
        extraBars();
        parts();
        overtied();
        bytesOfTheTape();
        barAtWhats();
        barAtPlaces();
        barAtWhatFirst();
        lesserAndGreater();
        carryingOrNot();
        pinsThatAreNone();
        pinWhats();
        barsOfAPin();
        partsOfAPin();
        lettersOfAPin();
        betweenPins();
        betweenNone();
        betweenPlaces();
        EDGES.close();
    }

    private static void due(String call, int got, int want) {
        EDGES.due(call, got, want);
    }

    // ---- 5: bar

    private static void barsOfNoPins() {
        EDGES.says(5, "BAD: PINS, the same");
        EDGES.same("bar(0, 0) of no pins", Desk.empty(), x -> x.bar(0, 0), BAD);
        EDGES.same("bar(0, 1) of one pin", Desk.pins(1), x -> x.bar(0, 1), BAD);
        EDGES.same("bar(1, 0) of one pin", Desk.pins(1), x -> x.bar(1, 0), BAD);
        EDGES.same("bar(0, 0) of one pin", Desk.pins(1), x -> x.bar(0, 0), BAD);
        EDGES.badPins("bar", Desk.pins(2), 2, PebbleBars::bar);
        EDGES.badPins("bar", Desk.pins(11), 11, PebbleBars::bar);
        EDGES.badPins("bar", Desk.pins(12), 12, PebbleBars::bar);
        // A pin that came after the image is none when that is laid back.
        Desk back = Desk.pins(2).then(x -> {
            x.image();
            Checks.told(x, "pin c");
            x.back();
        });
        EDGES.same("bar(0, 2), but 2 is gone", back, x -> x.bar(0, 2), BAD);
    }

    private static void barsOfAllPins() {
        EDGES.says(5, "each between two unlike PINS");
        for (int pins = 2; pins <= 12; pins++) {
            int last = pins - 1;
            Desk desk = Desk.pins(pins);
            due("bar(0, " + last + ")", desk.make().bar(0, last), 0);
            due("bar(" + last + ", 0)", desk.make().bar(last, 0), 0);
            due("bar(" + last + ", " + (last - 1) + ")", desk.make().bar(last, last - 1), 0);
        }
    }

    private static void placesInOrder() {
        EDGES.says(5, "A BAR comes: its PLACE");
        PebbleBars x = Desk.pins(12).make();
        int place = 0;
        for (int p = 11; p > 0 && place < 24; p--) {
            for (int q = 0; q < p && place < 24; q++) {
                due("bar(" + p + ", " + q + ")", x.bar(p, q), place);
                due("told(1)", x.told(1), place + 1);
                place++;
            }
        }
        due("between 11 and 0", x.between(0, 11), 0);
        due("between 9 and 2", x.between(2, 9), 23);
    }

    private static void barIsThere() {
        EDGES.says(5, "STATE: it is there");
        Desk desk = Desk.bars(12, "0b ba 01");
        EDGES.same("bar(0, 11)", desk, x -> x.bar(0, 11), STATE);
        EDGES.same("bar(11, 0)", desk, x -> x.bar(11, 0), STATE);
        EDGES.same("bar(10, 11)", desk, x -> x.bar(10, 11), STATE);
        EDGES.same("bar(1, 0)", desk, x -> x.bar(1, 0), STATE);
    }

    private static void twentyFourBars() {
        EDGES.says(5, "BARS (24 at most)");
        due("the 24th", TWENTY_THREE.make().bar(1, 11), 23);
        EDGES.same("the 25th", FULL_DESK, x -> x.bar(1, 11), FULL);
        EDGES.same("the 25th", FULL_DESK, x -> x.bar(11, 2), FULL);
        EDGES.same("the 25th of eight pins", Desk.bars(8, Desk.SEVEN + " 07 17 27"), x -> x.bar(3, 7), FULL);
    }

    private static void barRefusedFirst() {
        EDGES.says(5, "BAD .. STATE .. FULL");
        EDGES.same("none, of 24", FULL_DESK, x -> x.bar(12, 0), BAD);
        EDGES.same("the same, of 24", FULL_DESK, x -> x.bar(3, 3), BAD);
        EDGES.same("it is there, of 24", FULL_DESK, x -> x.bar(0, 1), STATE);
        EDGES.same("the last is there, of 24", FULL_DESK, x -> x.bar(5, 3), STATE);
    }

    private static void fullAndRoomAgain() {
        EDGES.says(5, "FULL", "but not when one went");
        PebbleBars x = FULL_DESK.make();
        due("FULL", x.bar(1, 11), FULL);
        due("off", x.off(0, 1), 0);
        due("comes", x.bar(1, 11), 23);
        due("FULL again", x.bar(0, 1), FULL);
        due("back", x.back(), 11);
        due("comes behind the image's two", x.bar(0, 1), 2);
    }

    // ---- 6: off

    private static void offOfNoPins() {
        EDGES.says(6, "BAD: PINS, the same");
        EDGES.same("off(0, 0) of no pins", Desk.empty(), x -> x.off(0, 0), BAD);
        EDGES.same("off(0, 1) of one pin", Desk.pins(1), x -> x.off(0, 1), BAD);
        EDGES.badPins("off", Desk.bars(2, "01"), 2, PebbleBars::off);
        EDGES.badPins("off", FULL_DESK, 12, PebbleBars::off);
    }

    private static void offOfNoBar() {
        EDGES.says(6, "STATE: it is not there");
        EDGES.same("no bars", Desk.pins(2), x -> x.off(0, 1), STATE);
        EDGES.same("of 24", FULL_DESK, x -> x.off(1, 11), STATE);
        EDGES.same("of 24", FULL_DESK, x -> x.off(11, 1), STATE);
        EDGES.same("gone already", Desk.bars(3, "01 12").then(x -> x.off(0, 1)), x -> x.off(1, 0), STATE);
    }

    private static void thoseBehindMoveUp() {
        EDGES.says(6, "as one goes, those behind it move up");
        PebbleBars x = Desk.bars(5, "01 12 23 34").make();
        due("the last", x.off(3, 4), 3);
        EDGES.dueLine("the last", x, "a-b b-c c-d");
        due("the second", x.off(2, 1), 1);
        EDGES.dueLine("the second", x, "a-b c-d");
        due("the first", x.off(0, 1), 0);
        EDGES.dueLine("the first", x, "c-d");
        x = FULL_DESK.make();
        due("the first of 24", x.off(0, 1), 0);
        due("the second is the first", x.between(0, 2), 0);
        due("the last is the last but one", x.between(3, 5), 22);
        due("the last goes", x.off(5, 3), 22);
        due("bars", x.told(1), 22);
    }

    private static void comesAgain() {
        EDGES.says(6, "one that comes again is the last");
        PebbleBars x = Desk.bars(4, Desk.TETRA).make();
        x.off(0, 1);
        due("comes again", x.bar(1, 0), 5);
        EDGES.dueLine("comes again", x, "a-c b-c c-d a-d b-d a-b");
        due("the last one is extra", x.barAt(5, 2), 0);
        due("the one ahead carries", x.barAt(4, 2), 1);
        x = FULL_DESK.make();
        x.off(3, 5);
        due("the last of 24 comes again", x.bar(3, 5), 23);
    }

    private static void offTheOnlyOne() {
        EDGES.says(6, "A BAR goes: the PLACE that it had");
        PebbleBars x = Desk.bars(2, "01").make();
        due("the only one", x.off(1, 0), 0);
        due("none is left", x.told(1), 0);
        due("stiff no more", x.told(4), 0);
        x = FULL_DESK.make();
        for (int left = 24; left > 0; left--) {
            due("the last of " + left, x.off(x.barAt(left - 1, 1), x.barAt(left - 1, 0)), left - 1);
        }
        due("none is left", x.told(1), 0);
    }

    // ---- 7: told

    private static void toldWhats() {
        EDGES.says(7, "PINS (what 0) .. bytes of THE TAPE (8). BAD");
        for (int what : new int[] {-1, 9, -2, 10, MOST, LEAST}) {
            EDGES.same("told(" + what + ")", FULL_DESK.fed("ab"), x -> x.told(what), BAD);
            EDGES.same("told(" + what + "), no pins", Desk.empty(), x -> x.told(what), BAD);
        }
        int[] wants = {12, 24, 21, 3, 1, 3, 1, 12, 2};
        for (int what = 0; what <= 8; what++) {
            int asked = what;
            EDGES.same("told(" + what + ")", FULL_DESK.fed("ab"), x -> x.told(asked), wants[what]);
        }
    }

    private static void toldPinsAndBars() {
        EDGES.says(7, "PINS (what 0), BARS (1)");
        for (int pins = 0; pins <= 12; pins++) {
            due(pins + " pins", Desk.pins(pins).make().told(0), pins);
            due("no bars", Desk.pins(pins).make().told(1), 0);
        }
        due("23", TWENTY_THREE.make().told(1), 23);
        due("24", FULL_DESK.make().told(1), 24);
        PebbleBars x = FULL_DESK.make();
        x.bar(1, 11);
        due("not 25", x.told(1), 24);
        Checks.told(x, "pin zz");
        due("not 13", x.told(0), 12);
    }

    private static void loose() {
        EDGES.says(7, "of any k (2 and more) PINS no more than 2 k - 3 of these BARS");
        due("two pins, one bar", Desk.bars(2, "01").make().told(2), 1);
        due("three pins, three bars", Desk.bars(3, "01 02 12").make().told(2), 3);
        due("four pins, five bars", Desk.bars(4, "01 02 12 23 03").make().told(2), 5);
        due("four pins, six bars", Desk.bars(4, Desk.TETRA).make().told(2), 5);
        due("seven pins, 21 bars", Desk.bars(7, Desk.SEVEN).make().told(2), 11);
        due("eight pins, 24 bars", Desk.bars(8, Desk.SEVEN + " 07 17 27").make().told(2), 13);
        due("twelve pins, 20 bars", Desk.bars(12, Desk.TWO_TO_TEN).make().told(2), 20);
        due("twelve pins, 21 bars", Desk.bars(12, Desk.TWO_TO_TEN + " 01").make().told(2), 21);
        due("twelve pins, 22 bars", Desk.bars(12, Desk.TWO_TO_TEN + " 01 23").make().told(2), 21);
    }

    private static void looseOfSome() {
        EDGES.says(7, "of any k .. PINS", "of some of them, though of all there are few BARS");
        due("four of twelve", Desk.bars(12, "89 8a 9a ab 8b 9b").make().told(2), 5);
        due("two fours with a pin in common", Desk.bars(7, Desk.TETRA + " 34 35 45 56 36 46").make().told(2), 10);
        // Six pins, all but three of the 15 bars: the nine ahead carry already.
        due("six pins, twelve bars", Desk.bars(6, "03 04 05 13 14 15 23 24 25 01 02 12").make().told(2), 9);
        due("a bar far off carries on", Desk.bars(6, Desk.TETRA + " 45").make().barAt(6, 2), 1);
    }

    private static void byPlaces() {
        EDGES.says(7, "By PLACES each BAR is CARRYING, if it and the CARRYING ones ahead of it are LOOSE; else EXTRA");
        PebbleBars x = Desk.bars(5, Desk.TETRA + " 34 04 14").make();
        int[] wants = {1, 1, 1, 1, 1, 0, 1, 1, 0};
        for (int place = 0; place < wants.length; place++) {
            due("carrying at " + place, x.barAt(place, 2), wants[place]);
        }
        // The extra one ahead does not count: without 0-1 it would carry itself.
        x.off(0, 1);
        int[] then = {1, 1, 1, 1, 1, 1, 1, 0};
        for (int place = 0; place < then.length; place++) {
            due("carrying then at " + place, x.barAt(place, 2), then[place]);
        }
    }

    private static void freedoms() {
        EDGES.says(7, "FREEDOMS: twice the PINS less RANK");
        for (int pins = 0; pins <= 12; pins++) {
            due(pins + " pins, no bars", Desk.pins(pins).make().told(3), 2 * pins);
        }
        due("12 pins, rank 20", Desk.bars(12, Desk.TWO_TO_TEN).make().told(3), 4);
        due("12 pins, rank 21", Desk.bars(12, Desk.FAN).make().told(3), 3);
        due("12 pins, 24 bars, rank 21", FULL_DESK.make().told(3), 3);
        due("12 pins, 24 bars, rank 14", Desk.bars(12, Desk.SEVEN + " 78 9a ab").make().told(3), 10);
    }

    private static void stiff() {
        EDGES.says(7, "STIFF: FREEDOMS are 3, with two PINS at least");
        due("no pins", Desk.pins(0).make().told(4), 0);
        due("one pin", Desk.pins(1).make().told(4), 0);
        due("two pins", Desk.pins(2).make().told(4), 0);
        due("two pins, a bar", Desk.bars(2, "01").make().told(4), 1);
        due("three pins, a bar", Desk.bars(3, "01").make().told(4), 0);
        due("three pins, two bars", Desk.bars(3, "01 12").make().told(4), 0);
        due("three pins, three bars", Desk.bars(3, "01 12 02").make().told(4), 1);
        due("four pins, six bars", Desk.bars(4, Desk.TETRA).make().told(4), 1);
        due("five pins, the same six bars", Desk.bars(5, Desk.TETRA).make().told(4), 0);
        due("five pins, seven bars, an extra one", Desk.bars(5, Desk.TETRA + " 34").make().told(4), 0);
        due("twelve pins, 20 bars", Desk.bars(12, Desk.TWO_TO_TEN).make().told(4), 0);
        due("twelve pins, 21 bars", Desk.bars(12, Desk.TWO_TO_TEN + " 01").make().told(4), 1);
        due("twelve pins, 24 bars, loose", Desk.bars(12, Desk.SEVEN + " 78 9a ab").make().told(4), 0);
    }

    private static void extraBars() {
        EDGES.says(7, "EXTRA BARS (5)");
        due("no pins", Desk.pins(0).make().told(5), 0);
        due("five of four", Desk.bars(4, "01 02 12 23 03").make().told(5), 0);
        due("six of four", Desk.bars(4, Desk.TETRA).make().told(5), 1);
        due("a fan of 21", Desk.bars(12, Desk.FAN).make().told(5), 0);
        due("a fan and one", Desk.bars(12, Desk.FAN + " 1b").make().told(5), 1);
        due("seven pins, 21 bars", Desk.bars(7, Desk.SEVEN).make().told(5), 10);
        due("eight pins, 24 bars: the most", Desk.bars(8, Desk.SEVEN + " 07 17 27").make().told(5), 11);
    }

    private static void parts() {
        EDGES.says(7, "PARTS (6) .. A PART: as many PINS as can be, two at least");
        due("no pins", Desk.pins(0).make().told(6), 0);
        due("one pin", Desk.pins(1).make().told(6), 0);
        due("twelve pins, no bars", Desk.pins(12).make().told(6), 0);
        due("two pins, a bar", Desk.bars(2, "01").make().told(6), 1);
        due("twelve pins, a bar", Desk.bars(12, "ab").make().told(6), 1);
        due("two bars of three pins", Desk.bars(3, "01 12").make().told(6), 2);
        due("three bars of three pins", Desk.bars(3, "01 12 02").make().told(6), 1);
        due("eleven bars of a star", Desk.bars(12, "01 02 03 04 05 06 07 08 09 0a 0b").make().told(6), 11);
        due("twenty bars, a part each: the most", Desk.bars(12, Desk.TWO_TO_TEN).make().told(6), 20);
        due("one bar more, and it is stiff", Desk.bars(12, Desk.TWO_TO_TEN + " 01").make().told(6), 1);
        due("24 bars, stiff", FULL_DESK.make().told(6), 1);
        due("24 bars, loose", Desk.bars(12, Desk.SEVEN + " 78 9a ab").make().told(6), 4);
    }

    private static void overtied() {
        EDGES.says(7, "OVERTIED BARS (7) .. if RANK were the same without it");
        due("no pins", Desk.pins(0).make().told(7), 0);
        due("a bar", Desk.bars(2, "01").make().told(7), 0);
        due("five of four", Desk.bars(4, "01 02 12 23 03").make().told(7), 0);
        due("six of four", Desk.bars(4, Desk.TETRA).make().told(7), 6);
        due("six of four, and one", Desk.bars(5, Desk.TETRA + " 34").make().told(7), 6);
        due("a fan of 21", Desk.bars(12, Desk.FAN).make().told(7), 0);
        due("a wheel of 22", Desk.bars(12, Desk.FAN + " 1b").make().told(7), 22);
        due("eight pins, 24 bars: all", Desk.bars(8, Desk.SEVEN + " 07 17 27").make().told(7), 24);
        due("eight pins, 23 bars: two are not", Desk.bars(8, Desk.SEVEN + " 07 17").make().told(7), 21);
    }

    private static void bytesOfTheTape() {
        EDGES.says(7, "bytes of THE TAPE (8)");
        PebbleBars x = new PebbleBars();
        for (int size = 0; size <= 30; size++) {
            due(size + " bytes", x.told(8), size);
            x.feed(1, 'a', 0, 0, 0, 0);
        }
        due("no 31st", x.told(8), 30);
        x.text();
        due("empty", x.told(8), 0);
    }

    // ---- 8: barAt

    private static void barAtWhats() {
        EDGES.says(8, "BAD: what");
        for (int what : new int[] {-1, 4, -2, 5, MOST, LEAST}) {
            EDGES.same("barAt(0, " + what + ")", FULL_DESK, x -> x.barAt(0, what), BAD);
            EDGES.same("barAt(23, " + what + ")", FULL_DESK, x -> x.barAt(23, what), BAD);
        }
        int[] first = {0, 1, 1, 1};
        int[] last = {3, 5, 0, 1};
        for (int what = 0; what <= 3; what++) {
            int asked = what;
            EDGES.same("barAt(0, " + what + ")", FULL_DESK, x -> x.barAt(0, asked), first[what]);
            EDGES.same("barAt(23, " + what + ")", FULL_DESK, x -> x.barAt(23, asked), last[what]);
        }
    }

    private static void barAtPlaces() {
        EDGES.says(8, "-12");
        for (int what = 0; what <= 3; what++) {
            int asked = what;
            EDGES.outsidePlaces("barAt .. " + what, Desk.empty(), 0, (x, place) -> x.barAt(place, asked));
            EDGES.outsidePlaces("barAt .. " + what, Desk.pins(12), 0, (x, place) -> x.barAt(place, asked));
            EDGES.outsidePlaces("barAt .. " + what, Desk.bars(2, "01"), 1, (x, place) -> x.barAt(place, asked));
            EDGES.outsidePlaces("barAt .. " + what, TWENTY_THREE, 23, (x, place) -> x.barAt(place, asked));
            EDGES.outsidePlaces("barAt .. " + what, FULL_DESK, 24, (x, place) -> x.barAt(place, asked));
        }
        PebbleBars x = Desk.bars(3, "01 12").make();
        due("the last", x.barAt(1, 0), 1);
        x.off(0, 1);
        due("its place when one went", x.barAt(1, 0), OUTSIDE);
        due("moved up", x.barAt(0, 0), 1);
    }

    private static void barAtWhatFirst() {
        EDGES.says(8, "BAD: what; -12");
        for (int what : new int[] {-1, 4, MOST, LEAST}) {
            EDGES.same("no bars, what " + what, Desk.empty(), x -> x.barAt(0, what), BAD);
            EDGES.same("place -1, what " + what, FULL_DESK, x -> x.barAt(-1, what), BAD);
            EDGES.same("place 24, what " + what, FULL_DESK, x -> x.barAt(24, what), BAD);
        }
    }

    private static void lesserAndGreater() {
        EDGES.says(8, "the lesser PIN (what 0), the greater (1)");
        PebbleBars x = Desk.bars(12, "b0 0a 98").make();
        int[][] wants = {{0, 11}, {0, 10}, {8, 9}};
        for (int place = 0; place < 3; place++) {
            due("lesser of " + place, x.barAt(place, 0), wants[place][0]);
            due("greater of " + place, x.barAt(place, 1), wants[place][1]);
        }
    }

    private static void carryingOrNot() {
        EDGES.says(8, "whether it is CARRYING (2), OVERTIED (3)");
        PebbleBars x = Desk.bars(5, "34 " + Desk.TETRA).make();
        int[] carrying = {1, 1, 1, 1, 1, 1, 0};
        int[] overtied = {0, 1, 1, 1, 1, 1, 1};
        for (int place = 0; place < 7; place++) {
            due("carrying at " + place, x.barAt(place, 2), carrying[place]);
            due("overtied at " + place, x.barAt(place, 3), overtied[place]);
        }
        x = Desk.bars(2, "01").make();
        due("the only one carries", x.barAt(0, 2), 1);
        due("the only one is not overtied", x.barAt(0, 3), 0);
        x = Desk.bars(12, Desk.FAN + " 1b 13 24").make();
        due("the 21st carries", x.barAt(20, 2), 1);
        due("the 22nd is extra", x.barAt(21, 2), 0);
        due("the 24th is extra", x.barAt(23, 2), 0);
        due("the 24th is overtied", x.barAt(23, 3), 1);
    }

    // ---- 9: pin

    private static void pinsThatAreNone() {
        EDGES.says(9, "Of a PIN .. BAD");
        for (int what : new int[] {0, 1, 2, 3, 10, 13}) {
            EDGES.same("no pins, what " + what, Desk.empty(), x -> x.pin(0, what), BAD);
            EDGES.same("one pin, 1, what " + what, Desk.pins(1), x -> x.pin(1, what), BAD);
            for (int p : new int[] {-1, 11, 12, 31, 32, MOST, LEAST}) {
                EDGES.same("eleven pins, " + p + ", what " + what, Desk.pins(11), x -> x.pin(p, what), BAD);
            }
            for (int p : new int[] {-1, 12, 13, MOST, LEAST}) {
                EDGES.same("twelve pins, " + p + ", what " + what, FULL_DESK, x -> x.pin(p, what), BAD);
            }
        }
        due("the last of twelve", FULL_DESK.make().pin(11, 3), 1);
        due("the only one", Desk.pins(1).make().pin(0, 3), 1);
    }

    private static void pinWhats() {
        EDGES.says(9, "(what 0) .. (1; bits) .. (2) .. (3) .. (10 .. 13; NONE). BAD");
        for (int what : new int[] {-1, 4, 5, 6, 7, 8, 9, 14, 15, -2, MOST, LEAST}) {
            EDGES.same("what " + what, FULL_DESK, x -> x.pin(0, what), BAD);
            EDGES.same("what " + what + ", no such pin", FULL_DESK, x -> x.pin(12, what), BAD);
        }
        for (int what : FAR_WHATS) {
            EDGES.same("what " + what + ", no pins", Desk.empty(), x -> x.pin(0, what), BAD);
        }
        int[] whats = {0, 1, 2, 3, 10, 11, 12, 13};
        int[] wants = {11, 4094, 1, 1, 'a', NONE, NONE, NONE};
        for (int i = 0; i < whats.length; i++) {
            int what = whats[i];
            EDGES.same("what " + what, FULL_DESK, x -> x.pin(0, what), wants[i]);
        }
    }

    private static void barsOfAPin() {
        EDGES.says(9, "how many BARS (what 0), with which PINS (1; bits)");
        PebbleBars x = Desk.bars(12, "01 02 03 04 05 06 07 08 09 0a 0b").make();
        due("all of 0", x.pin(0, 0), 11);
        due("all of 0", x.pin(0, 1), 4094);
        due("one of 11", x.pin(11, 0), 1);
        due("one of 11", x.pin(11, 1), 1);
        x = Desk.bars(12, "0b 1b 2b 3b 4b 5b 6b 7b 8b 9b ab").make();
        due("all of 11", x.pin(11, 0), 11);
        due("all of 11", x.pin(11, 1), 2047);
        due("one of 10", x.pin(10, 1), 2048);
        x = Desk.bars(3, "01").make();
        due("none of 2", x.pin(2, 0), 0);
        due("none of 2", x.pin(2, 1), 0);
        x.off(0, 1);
        due("gone", x.pin(0, 1), 0);
    }

    private static void partsOfAPin() {
        EDGES.says(9, "of how many PARTS it is (2)");
        due("the only pin", Desk.pins(1).make().pin(0, 2), 0);
        due("no bar", Desk.bars(3, "01").make().pin(2, 2), 0);
        due("one bar", Desk.bars(3, "01").make().pin(1, 2), 1);
        PebbleBars x = Desk.bars(12, "01 02 03 04 05 06 07 08 09 0a 0b").make();
        due("eleven: the most", x.pin(0, 2), 11);
        due("one of them", x.pin(11, 2), 1);
        x = Desk.bars(12, Desk.TWO_TO_TEN).make();
        due("ten", x.pin(1, 2), 10);
        due("two", x.pin(11, 2), 2);
        x.bar(0, 1);
        due("stiff", x.pin(1, 2), 1);
        due("stiff", x.pin(11, 2), 1);
    }

    private static void lettersOfAPin() {
        EDGES.says(9, "how many letters its NAME has (3), letter what - 10 of it (10 .. 13; NONE)");
        String[] names = {"z", "az", "zaz", "azaz", "zzzz", "aaaa"};
        PebbleBars x = new PebbleBars();
        for (int p = 0; p < names.length; p++) {
            Checks.told(x, "pin " + names[p]);
            due("letters of " + names[p], x.pin(p, 3), names[p].length());
            for (int i = 0; i < 4; i++) {
                due("letter " + i + " of " + names[p], x.pin(p, 10 + i), i < names[p].length() ? names[p].charAt(i) : NONE);
            }
            due("letter -1 of " + names[p], x.pin(p, 9), BAD);
            due("letter 4 of " + names[p], x.pin(p, 14), BAD);
        }
    }

    // ---- 10: between

    private static void betweenPins() {
        EDGES.says(10, "BAD: PINS, the same");
        EDGES.same("of no pins", Desk.empty(), x -> x.between(0, 0), BAD);
        EDGES.same("of one pin", Desk.pins(1), x -> x.between(0, 1), BAD);
        EDGES.badPins("between", Desk.bars(2, "01"), 2, PebbleBars::between);
        EDGES.badPins("between", FULL_DESK, 12, PebbleBars::between);
    }

    private static void betweenNone() {
        EDGES.says(10, "NONE");
        EDGES.same("no bars", Desk.pins(2), x -> x.between(0, 1), NONE);
        EDGES.same("no bars", Desk.pins(12), x -> x.between(11, 10), NONE);
        EDGES.same("of 24", FULL_DESK, x -> x.between(1, 11), NONE);
        EDGES.same("gone", Desk.bars(3, "01 12").then(x -> x.off(0, 1)), x -> x.between(0, 1), NONE);
    }

    private static void betweenPlaces() {
        EDGES.says(10, "The PLACE of the BAR between two PINS");
        EDGES.same("the first", FULL_DESK, x -> x.between(0, 1), 0);
        EDGES.same("the first, turned", FULL_DESK, x -> x.between(1, 0), 0);
        EDGES.same("the last", FULL_DESK, x -> x.between(3, 5), 23);
        EDGES.same("the last, turned", FULL_DESK, x -> x.between(5, 3), 23);
        EDGES.same("of the last two pins", FULL_DESK, x -> x.between(11, 10), 20);
    }
}
