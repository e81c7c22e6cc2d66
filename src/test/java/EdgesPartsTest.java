/** Boundary cases of promises 11 to 14, sentence by sentence: rigid parts. */
public final class EdgesPartsTest {
    private static final int NONE = Edges.NONE, BAD = Edges.BAD, STATE = Edges.STATE;
    private static final int OUTSIDE = Edges.OUTSIDE;
    private static final int MOST = Edges.MOST, LEAST = Edges.LEAST;
    private static final int ALL_24 = (1 << 24) - 1;

    private static final Edges EDGES = new Edges();
    private static final Desk FULL_DESK = Desk.full();

    public static void main(String[] args) {
        tiedPins();
        tiedOrNot();
        tiedWithABar();
        tiedBeyond24();
        partsOutside();
        partsOfTwoAtLeast();
        partsInOrder();
        partsBySecondLeast();
        mostParts();
        partsAsLargeAsCanBe();
        ringPlaces();
        ringOfCarrying();
        ringOutsideFirst();
        smallestRing();
        largestRing();
        ringOfThoseAhead();
        ringAtTheLastPlace();
        worstWhats();
        worstOfTooFewPins();
        worstWhatFirst();
        worstOfTwoPins();
        worstOfNoBars();
        worstOfExtraOnes();
        worstByMost();
        worstOfFewestPins();
        worstLeastAsBits();
        worstOfTwelve();
        EDGES.close();
    }

    private static void due(String call, int got, int want) {
        EDGES.due(call, got, want);
    }

    private static void dueWorst(String where, String pairs, int pins, int by, int which) {
        Desk desk = pairs.isEmpty() ? Desk.pins(pins) : Desk.bars(pins, pairs);
        EDGES.same(where + ": by how many", desk, x -> x.worst(0), by);
        EDGES.same(where + ": which pins", desk, x -> x.worst(1), which);
    }

    // ---- 11: tied

    private static void tiedPins() {
        EDGES.says(11, "BAD: PINS, the same");
        EDGES.same("of no pins", Desk.empty(), x -> x.tied(0, 0), BAD);
        EDGES.same("of one pin", Desk.pins(1), x -> x.tied(0, 1), BAD);
        EDGES.same("of one pin, the same", Desk.pins(1), x -> x.tied(0, 0), BAD);
        EDGES.badPins("tied", Desk.bars(2, "01"), 2, PebbleBars::tied);
        EDGES.badPins("tied", FULL_DESK, 12, PebbleBars::tied);
    }

    private static void tiedOrNot() {
        EDGES.says(11, "TIED are two unlike PINS, if a BAR more between them .. would be EXTRA");
        EDGES.same("two pins", Desk.pins(2), x -> x.tied(0, 1), 0);
        EDGES.same("ends of two bars", Desk.bars(3, "01 12"), x -> x.tied(0, 2), 0);
        EDGES.same("twelve pins, no bars", Desk.pins(12), x -> x.tied(11, 0), 0);
        EDGES.same("across a square", Desk.bars(4, "01 12 23 03"), x -> x.tied(1, 3), 0);
        EDGES.same("across a stiff square", Desk.bars(4, "01 12 23 03 02"), x -> x.tied(1, 3), 1);
        EDGES.same("across a stiff square, turned", Desk.bars(4, "01 12 23 03 02"), x -> x.tied(3, 1), 1);
        EDGES.same("a freedom too many", Desk.bars(12, Desk.TWO_TO_TEN), x -> x.tied(0, 1), 0);
        EDGES.same("a freedom too many, far ends", Desk.bars(12, Desk.TWO_TO_TEN), x -> x.tied(2, 11), 0);
        EDGES.same("stiff", Desk.bars(12, Desk.TWO_TO_TEN + " 01"), x -> x.tied(2, 11), 1);
        EDGES.same("a pin off a stiff frame", Desk.bars(5, Desk.TETRA), x -> x.tied(4, 0), 0);
    }

    private static void tiedWithABar() {
        EDGES.says(11, "(last of all; also if there is one)");
        EDGES.same("the only bar", Desk.bars(2, "01"), x -> x.tied(0, 1), 1);
        EDGES.same("the only bar, turned", Desk.bars(2, "01"), x -> x.tied(1, 0), 1);
        EDGES.same("an extra one", Desk.bars(4, Desk.TETRA), x -> x.tied(1, 3), 1);
        EDGES.same("one that carries", Desk.bars(4, Desk.TETRA), x -> x.tied(0, 1), 1);
        EDGES.same("one went", Desk.bars(2, "01").then(x -> x.off(0, 1)), x -> x.tied(0, 1), 0);
    }

    private static void tiedBeyond24() {
        EDGES.says(11, "a BAR more", "in thought, of 24 BARS, too");
        EDGES.same("stiff", FULL_DESK, x -> x.tied(1, 11), 1);
        Desk loose = Desk.bars(12, Desk.SEVEN + " 78 9a ab");
        EDGES.same("loose", loose, x -> x.tied(6, 8), 0);
        EDGES.same("loose, a part", loose, x -> x.tied(6, 0), 1);
        EDGES.same("loose, apart", loose, x -> x.tied(11, 0), 0);
        EDGES.same("loose, a bar", loose, x -> x.tied(11, 10), 1);
    }

    // ---- 12: part

    private static void partsOutside() {
        EDGES.says(12, "-12");
        for (int i : new int[] {-1, -2, 0, 1, 24, MOST, LEAST}) {
            EDGES.same("no pins, part(" + i + ")", Desk.empty(), x -> x.part(i), OUTSIDE);
            EDGES.same("one pin, part(" + i + ")", Desk.pins(1), x -> x.part(i), OUTSIDE);
            EDGES.same("no bars, part(" + i + ")", Desk.pins(12), x -> x.part(i), OUTSIDE);
        }
        for (int i : new int[] {-1, 1, 2, 12, 24, MOST, LEAST}) {
            EDGES.same("one part, part(" + i + ")", FULL_DESK, x -> x.part(i), OUTSIDE);
        }
        EDGES.same("one part, part(0)", FULL_DESK, x -> x.part(0), 4095);
    }

    private static void partsOfTwoAtLeast() {
        EDGES.says(12, "two at least");
        EDGES.same("a bar", Desk.bars(2, "01"), x -> x.part(0), 3);
        EDGES.same("a bar, and a pin", Desk.bars(3, "12"), x -> x.part(0), 6);
        EDGES.same("a bar, and a pin: no more", Desk.bars(3, "12"), x -> x.part(1), OUTSIDE);
        EDGES.same("the last two of twelve", Desk.bars(12, "ab"), x -> x.part(0), 1024 + 2048);
    }

    private static void partsInOrder() {
        EDGES.says(12, "PARTS come in order by their least PIN");
        int[] wants = {1 + 2 + 32, 2 + 4, 4 + 8, 16 + 32, OUTSIDE};
        for (int i = 0; i < wants.length; i++) {
            int asked = i;
            EDGES.same("part(" + i + ")", Desk.bars(6, "45 23 12 51 50 01"), x -> x.part(asked), wants[i]);
        }
    }

    private static void partsBySecondLeast() {
        EDGES.says(12, "of like ones by their second least");
        // Of pin 0: with 1 and 11, with 2 and 3, with 4.
        int[] wants = {1 + 2 + 2048, 1 + 4 + 8, 1 + 16, OUTSIDE};
        for (int i = 0; i < wants.length; i++) {
            int asked = i;
            EDGES.same("part(" + i + ")", Desk.bars(12, "04 03 02 23 0b 01 1b"), x -> x.part(asked), wants[i]);
        }
    }

    private static void mostParts() {
        EDGES.says(12, "PINS (bits) of the i-th PART", "twenty, the most");
        Desk desk = Desk.bars(12, Desk.TWO_TO_TEN);
        for (int i = 0; i < 20; i++) {
            int asked = i;
            EDGES.same("part(" + i + ")", desk, x -> x.part(asked), i < 10 ? 1 + (4 << i) : 2 + (4 << i - 10));
        }
        EDGES.same("part(20)", desk, x -> x.part(20), OUTSIDE);
        EDGES.same("with one bar more", Desk.bars(12, Desk.TWO_TO_TEN + " 01"), x -> x.part(0), 4095);
    }

    private static void partsAsLargeAsCanBe() {
        EDGES.says(12, "A PART: as many PINS as can be .. all TIED to each other");
        // No triangle is in it, and yet all six are one part.
        String three = "03 04 05 13 14 15 23 24 25";
        EDGES.same("three and three", Desk.bars(6, three), x -> x.part(0), 63);
        EDGES.same("three and three, a bar less", Desk.bars(6, three.substring(3)), x -> x.part(0), 1 + 16);
        // Fans of 0 with 1, 2, 3 and with 4, 5, 6: they share a pin, then a bar across makes them one.
        String fans = "01 02 03 12 23 04 05 06 45 56";
        EDGES.same("two fans, the first", Desk.bars(7, fans), x -> x.part(0), 1 + 2 + 4 + 8);
        EDGES.same("two fans, the second", Desk.bars(7, fans), x -> x.part(1), 1 + 16 + 32 + 64);
        EDGES.same("two fans and a bar", Desk.bars(7, fans + " 36"), x -> x.part(0), 127);
        EDGES.same("two fans and a bar: no more", Desk.bars(7, fans + " 36"), x -> x.part(1), OUTSIDE);
    }

    // ---- 13: ring

    private static void ringPlaces() {
        EDGES.says(13, "-12");
        EDGES.outsidePlaces("ring", Desk.empty(), 0, PebbleBars::ring);
        EDGES.outsidePlaces("ring", Desk.pins(12), 0, PebbleBars::ring);
        EDGES.outsidePlaces("ring", Desk.bars(2, "01"), 1, PebbleBars::ring);
        EDGES.outsidePlaces("ring", Desk.bars(4, Desk.TETRA), 6, PebbleBars::ring);
        EDGES.outsidePlaces("ring", FULL_DESK, 24, PebbleBars::ring);
    }

    private static void ringOfCarrying() {
        EDGES.says(13, "STATE: it is CARRYING");
        EDGES.same("the only bar", Desk.bars(2, "01"), x -> x.ring(0), STATE);
        EDGES.same("the first", Desk.bars(4, Desk.TETRA), x -> x.ring(0), STATE);
        EDGES.same("the last that carries", Desk.bars(4, Desk.TETRA), x -> x.ring(4), STATE);
        EDGES.same("one behind an extra one", Desk.bars(5, Desk.TETRA + " 34"), x -> x.ring(6), STATE);
        EDGES.same("the 21st of a fan", FULL_DESK, x -> x.ring(20), STATE);
        Desk turned = Desk.bars(4, Desk.TETRA).then(x -> {
            x.off(0, 1);
            x.bar(0, 1);
        });
        EDGES.same("the one that was extra", turned, x -> x.ring(4), STATE);
        EDGES.same("the one that came again", turned, x -> x.ring(5), 63);
    }

    private static void ringOutsideFirst() {
        EDGES.says(13, "-12; STATE");
        Desk desk = Desk.bars(3, "01 12 02");
        EDGES.same("behind those that carry", desk, x -> x.ring(3), OUTSIDE);
        EDGES.same("ahead of them", desk, x -> x.ring(-1), OUTSIDE);
    }

    private static void smallestRing() {
        EDGES.says(13, "RING of an EXTRA BAR: itself, and those CARRYING ones ahead of it", "six BARS at least");
        EDGES.same("four pins, all", Desk.bars(4, Desk.TETRA), x -> x.ring(5), 63);
        EDGES.same("the last four of twelve", Desk.bars(12, "01 89 8a 8b 9a 9b ab"), x -> x.ring(6), 126);
        EDGES.same("others between", Desk.bars(12, "89 12 8a 23 8b 34 9a 45 9b 01 ab"),
                x -> x.ring(10), 1 + 4 + 16 + 64 + 256 + 1024);
    }

    private static void largestRing() {
        EDGES.says(13, "RING of an EXTRA BAR", "22 BARS at most");
        EDGES.same("a wheel of twelve pins", Desk.bars(12, Desk.FAN + " 1b"), x -> x.ring(21), (1 << 22) - 1);
    }

    private static void ringOfThoseAhead() {
        EDGES.says(13, "those CARRYING ones ahead of it without each of which (alone) it would be CARRYING");
        Desk desk = Desk.bars(5, Desk.TETRA + " 04 14 24 34");
        EDGES.same("not those behind", desk, x -> x.ring(5), 63);
        // Of 2-4 the stiff four tie 0, 1 and 2, but of the bars only 0-1, 0-2, 1-2 are in it.
        EDGES.same("not an extra one ahead", desk, x -> x.ring(8), 1 + 2 + 4 + 64 + 128 + 256);
        // Of 3-4: 1-3 is extra, so that what ties 1 to 3 are the other five of the four pins.
        EDGES.same("by those that carry alone", desk, x -> x.ring(9), 1 + 2 + 4 + 8 + 16 + 64 + 128 + 512);
    }

    private static void ringAtTheLastPlace() {
        EDGES.says(13, "(bits by PLACES)", "of the 24th");
        EDGES.same("place 21", FULL_DESK, x -> x.ring(21), (1 + 2 + 4 + 8 + 16) + (1 << 21));
        EDGES.same("place 23", FULL_DESK, x -> x.ring(23), (8 + 32 + 64 + 128 + 256) + (1 << 23));
        EDGES.same("all bits are of 24", FULL_DESK, x -> x.ring(23) & ~ALL_24, 0);
    }

    // ---- 14: worst

    private static void worstWhats() {
        EDGES.says(14, "(what 0; 1000 more) .. (1; bits). BAD");
        for (int what : new int[] {-1, 2, -2, 3, MOST, LEAST}) {
            EDGES.same("worst(" + what + ")", FULL_DESK, x -> x.worst(what), BAD);
            EDGES.same("worst(" + what + "), two pins", Desk.pins(2), x -> x.worst(what), BAD);
        }
    }

    private static void worstOfTooFewPins() {
        EDGES.says(14, "STATE: there are not two PINS");
        for (int what = 0; what < 2; what++) {
            int asked = what;
            EDGES.same("no pins", Desk.empty(), x -> x.worst(asked), STATE);
            EDGES.same("one pin", Desk.pins(1), x -> x.worst(asked), STATE);
            Desk back = Desk.pins(1).then(x -> {
                x.image();
                Checks.told(x, "pin b");
                x.bar(0, 1);
                x.worst(0);
                x.back();
            });
            EDGES.same("one pin again", back, x -> x.worst(asked), STATE);
        }
    }

    private static void worstWhatFirst() {
        EDGES.says(14, "BAD; STATE");
        for (int what : new int[] {NONE, 2, MOST, LEAST}) {
            EDGES.same("no pins, what " + what, Desk.empty(), x -> x.worst(what), BAD);
            EDGES.same("one pin, what " + what, Desk.pins(1), x -> x.worst(what), BAD);
        }
    }

    private static void worstOfTwoPins() {
        EDGES.says(14, "of all sets of k (2 and more) PINS");
        dueWorst("two pins", "", 2, 999, 3);
        dueWorst("two pins, a bar", "01", 2, 1000, 3);
        dueWorst("three pins, three bars", "01 02 12", 3, 1000, 3);
        dueWorst("four pins, five bars", "01 02 12 23 03", 4, 1000, 3);
        dueWorst("four pins, six bars", Desk.TETRA, 4, 1001, 15);
    }

    private static void worstOfNoBars() {
        EDGES.says(14, "BARS .. less 2 k - 3, are most", "without BARS, too");
        dueWorst("three pins", "", 3, 999, 3);
        dueWorst("twelve pins", "", 12, 999, 3);
        dueWorst("the last two of twelve", "ab", 12, 1000, 1024 + 2048);
    }

    private static void worstOfExtraOnes() {
        EDGES.says(14, "(EXTRA ones, too)");
        dueWorst("seven pins, 21 bars", Desk.SEVEN, 7, 1010, 127);
        dueWorst("five pins, ten bars", "01 02 03 04 12 13 14 23 24 34", 5, 1003, 31);
    }

    private static void worstByMost() {
        EDGES.says(14, "are most", "eleven, of 24 BARS");
        dueWorst("eight pins, 24 bars", Desk.SEVEN + " 07 17 27", 8, 1011, 255);
        dueWorst("eight pins, 23 bars", Desk.SEVEN + " 07 17", 8, 1010, 127);
        dueWorst("the highest eight of twelve", "45 46 47 48 49 4a 56 57 58 59 5a 67 68 69 6a 78 79 7a 89 8a 9a 4b 5b 6b",
                12, 1011, 0xff0);
    }

    private static void worstOfFewestPins() {
        EDGES.says(14, "of like ones that of fewest PINS");
        dueWorst("four of five", Desk.TETRA + " 34 04", 5, 1001, 15);
        // The five 4 .. 8 (nine bars) are two too many, the four 0 .. 3 one, the four 4, 5, 6, 7 one.
        dueWorst("five, not four", Desk.TETRA + " 45 46 47 56 57 67 48 58 68", 9, 1002, 0x1f0);
        dueWorst("two fours, the lower one in a five", "01 02 03 04 12 13 14 23 56 57 58 67 68 78", 9, 1001, 15);
        // Five pins with eight bars, none of their fours all tied: the four above are fewer.
        dueWorst("a wheel of five below a four", "01 02 03 04 12 23 34 14 56 57 58 67 68 78", 9, 1001, 0x1e0);
    }

    private static void worstLeastAsBits() {
        EDGES.says(14, "then the least as bits");
        dueWorst("two bars", "23 01", 4, 1000, 3);
        dueWorst("two bars of a pin", "02 12", 3, 1000, 5);
        dueWorst("1 and 2, not 0 and 3", "03 12", 4, 1000, 6);
        dueWorst("two fours", "45 46 47 56 57 67 " + Desk.TETRA, 8, 1001, 15);
        dueWorst("0, 5, 6, 7 and 1, 2, 3, 4", "05 06 07 56 57 67 12 13 14 23 24 34", 8, 1001, 30);
    }

    private static void worstOfTwelve() {
        EDGES.says(14, "of all sets of k .. PINS", "all twelve");
        dueWorst("a wheel", Desk.FAN + " 1b", 12, 1001, 4095);
        dueWorst("a wheel and two bars", Desk.FAN + " 1b 2b 3b", 12, 1003, 4095);
        dueWorst("a fan", Desk.FAN, 12, 1000, 3);
        dueWorst("eleven of twelve", "12 13 23 14 34 15 45 16 56 17 67 18 78 19 89 1a 9a 1b ab 2b", 12, 1001, 4094);
    }
}
