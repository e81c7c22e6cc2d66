/** Boundary cases of promises 20 to 23, sentence by sentence: what was told, and the image. */
public final class EdgesToldTest {
    private static final int NONE = Edges.NONE, BAD = Edges.BAD, STATE = Edges.STATE, FULL = Edges.FULL;
    private static final int MISSING = Edges.MISSING, OUTSIDE = Edges.OUTSIDE, OTHER_SORT = Edges.OTHER_SORT;
    private static final int MOST = Edges.MOST, LEAST = Edges.LEAST;
    private static final int ALL_24 = (1 << 24) - 1;

    private static final Edges EDGES = new Edges();
    private static final Desk FULL_DESK = Desk.full();
    private static final Desk FOUR = Desk.bars(4, Desk.TETRA);
    /** 24 bars, the three last of them extra. */
    private static final String FAN_24 = Desk.FAN + " 1b 13 24";

    public static void main(String[] args) {
        tellsSheets();
        tellsWhats();
        tellsMissing();
        tellsMoreThan24();
        tellsRefusedFirst();
        tellsOneOrNot();
        tellsByteOrInt();
        tellsOtherwise();
        tellsNotThere();
        tellsTooFew();
        tellsOtherwiseBeforeTooFew();
        tellsNothing();
        tells24();
        lastOnes();
        lastOnesInOrder();
        lastOnesOfNone();
        lastOnesOf24();
        lastOnesTooFewTooMany();
        filmSheets();
        filmOfNoBars();
        filmOf24();
        filmTruly();
        filmChangesNothingElse();
        imageOfNone();
        imageOfTwelve();
        imageChangesNothing();
        imageAgain();
        backOfNone();
        backOfEmpty();
        backOfFull();
        backKeepsTheRest();
        backAgain();
        EDGES.close();
    }

    private static void due(String call, int got, int want) {
        EDGES.due(call, got, want);
    }

    private static void fill(PebbleBars x, int sheet, int sort, int... items) {
        x.sheet(sheet, sort, items.length);
        for (int i = 0; i < items.length; i++) {
            x.put(sheet, i, items[i]);
        }
    }

    private static Desk told(Desk desk, int sort, int... items) {
        return desk.then(x -> fill(x, 3, sort, items));
    }

    // ---- 20: tells

    private static void tellsSheets() {
        EDGES.says(20, "BAD: SHEET");
        for (int sheet : new int[] {-1, 4, -2, 5, MOST, LEAST}) {
            EDGES.same("sheet " + sheet + ", what 0", FULL_DESK, x -> x.tells(sheet, 0), BAD);
            EDGES.same("sheet " + sheet + ", what 1", FULL_DESK, x -> x.tells(sheet, 1), BAD);
        }
        for (int sheet = 0; sheet < 4; sheet++) {
            int s = sheet;
            Desk desk = Desk.bars(2, "01").then(x -> fill(x, s, 0, 1));
            EDGES.same("sheet " + sheet + ", what 0", desk, x -> x.tells(s, 0), NONE);
            EDGES.same("sheet " + sheet + ", what 1", desk, x -> x.tells(s, 1), 1);
        }
    }

    private static void tellsWhats() {
        EDGES.says(20, "BAD: .. what");
        for (int what : new int[] {-1, 2, -2, 3, MOST, LEAST}) {
            EDGES.same("what " + what, told(FOUR, 0, 1, 1), x -> x.tells(3, what), BAD);
        }
    }

    private static void tellsMissing() {
        EDGES.says(20, "-11");
        for (int what = 0; what < 2; what++) {
            int asked = what;
            EDGES.same("never made, what " + what, FOUR, x -> x.tells(0, asked), MISSING);
            EDGES.same("of the full desk, what " + what, FULL_DESK, x -> x.tells(3, asked), MISSING);
            Desk gone = told(FOUR, 1, 1, 1, 1, 1, 1, 0).then(x -> x.sheet(3, -1, 0));
            EDGES.same("made missing, what " + what, gone, x -> x.tells(3, asked), MISSING);
        }
    }

    private static void tellsMoreThan24() {
        EDGES.says(20, "BAD: it tells more than 24");
        for (int sort = 0; sort < 2; sort++) {
            for (int what = 0; what < 2; what++) {
                int asked = what;
                for (int n : new int[] {25, 26, 40}) {
                    EDGES.same(n + " of sort " + sort + ", what " + what, told(FOUR, sort, new int[n]),
                            x -> x.tells(3, asked), BAD);
                }
                EDGES.same("24 of sort " + sort + ", what " + what, told(FOUR, sort, new int[24]),
                        x -> x.tells(3, asked), 0);
            }
        }
        EDGES.same("25, of no bars", told(Desk.empty(), 0, new int[25]), x -> x.tells(3, 0), BAD);
    }

    private static void tellsRefusedFirst() {
        EDGES.says(20, "BAD: SHEET, what; -11; BAD: it tells more than 24");
        EDGES.same("what, of a missing one", FULL_DESK, x -> x.tells(3, 2), BAD);
        EDGES.same("what, of one of 40", FULL_DESK, x -> x.tells(0, -1), BAD);
        EDGES.same("no sheet, no what", FULL_DESK, x -> x.tells(4, 2), BAD);
        EDGES.same("missing, when it had 40", FULL_DESK.then(x -> x.sheet(0, -1, 40)), x -> x.tells(0, 0), MISSING);
    }

    private static void tellsOneOrNot() {
        EDGES.says(20, "CARRYING (1) or not (any other number)");
        for (int value : new int[] {0, 2, 3, 10, 128, 254, 255}) {
            for (int sort = 0; sort < 2; sort++) {
                EDGES.same(value + " for the extra one", told(FOUR, sort, 1, 1, 1, 1, 1, value), x -> x.tells(3, 0), NONE);
                EDGES.same(value + " for one that carries", told(FOUR, sort, 1, 1, value, 1, 1, 0), x -> x.tells(3, 0), 2);
            }
        }
        for (int value : new int[] {-1, -2, 256, 257, -255, 65537, MOST, LEAST, LEAST + 1}) {
            EDGES.same(value + " for the extra one", told(FOUR, 1, 1, 1, 1, 1, 1, value), x -> x.tells(3, 0), NONE);
            EDGES.same(value + " for the first", told(FOUR, 1, value, 1, 1, 1, 1, 0), x -> x.tells(3, 0), 0);
            EDGES.same(value + ", the last ones", told(FOUR, 1, 1, 1, 1, 1, 1, value), x -> x.tells(3, 1), 63);
        }
    }

    private static void tellsByteOrInt() {
        EDGES.says(20, "CARRYING (1)", "of bytes the lowest 8 bits");
        for (int value : new int[] {257, -255, 65537, LEAST + 1}) {
            EDGES.same(value + " for the first", told(FOUR, 0, value, 1, 1, 1, 1, 0), x -> x.tells(3, 0), NONE);
            EDGES.same(value + " for the extra one", told(FOUR, 0, 1, 1, 1, 1, 1, value), x -> x.tells(3, 0), 5);
        }
    }

    private static void tellsOtherwise() {
        EDGES.says(20, "the first PLACE (from 0) that is otherwise");
        EDGES.same("the first", told(FOUR, 0, 0, 1, 1, 1, 1, 0), x -> x.tells(3, 0), 0);
        EDGES.same("the last", told(FOUR, 0, 1, 1, 1, 1, 1, 1), x -> x.tells(3, 0), 5);
        EDGES.same("two of them", told(FOUR, 0, 1, 0, 1, 0, 1, 1), x -> x.tells(3, 0), 1);
        EDGES.same("all of them", told(FOUR, 0, 0, 0, 0, 0, 0, 1), x -> x.tells(3, 0), 0);
    }

    private static void tellsNotThere() {
        EDGES.says(20, "or told, but not there");
        EDGES.same("one told of none", told(Desk.empty(), 0, 0), x -> x.tells(3, 0), 0);
        EDGES.same("one told of none", told(Desk.pins(2), 1, 1), x -> x.tells(3, 0), 0);
        EDGES.same("a seventh, not", told(FOUR, 0, 1, 1, 1, 1, 1, 0, 0), x -> x.tells(3, 0), 6);
        EDGES.same("a seventh, carrying", told(FOUR, 0, 1, 1, 1, 1, 1, 0, 1), x -> x.tells(3, 0), 6);
        EDGES.same("a seventh, one otherwise ahead", told(FOUR, 0, 1, 1, 1, 1, 1, 1, 1), x -> x.tells(3, 0), 5);
        int[] items = ones(24);
        EDGES.same("a 24th", told(Desk.bars(12, Desk.FAN + " 1b 13"), 0, with(with(items, 21, 0), 22, 0)),
                x -> x.tells(3, 0), 23);
    }

    private static int[] ones(int n) {
        int[] items = new int[n];
        for (int i = 0; i < n; i++) {
            items[i] = 1;
        }
        return items;
    }

    private static int[] with(int[] items, int i, int value) {
        int[] more = items.clone();
        more[i] = value;
        return more;
    }

    private static void tellsTooFew() {
        EDGES.says(20, "else, if it tells too few, how many it tells");
        EDGES.same("none", told(FOUR, 0), x -> x.tells(3, 0), 0);
        EDGES.same("one", told(FOUR, 0, 1), x -> x.tells(3, 0), 1);
        EDGES.same("all but one", told(FOUR, 1, 1, 1, 1, 1, 1), x -> x.tells(3, 0), 5);
        EDGES.same("23 of 24", told(Desk.bars(12, FAN_24), 1, with(with(ones(23), 21, 0), 22, 0)), x -> x.tells(3, 0), 23);
    }

    private static void tellsOtherwiseBeforeTooFew() {
        EDGES.says(20, "the first PLACE .. that is otherwise .. else, if it tells too few");
        EDGES.same("the first of one", told(FOUR, 0, 0), x -> x.tells(3, 0), 0);
        EDGES.same("the last of four", told(FOUR, 0, 1, 1, 1, 0), x -> x.tells(3, 0), 3);
    }

    private static void tellsNothing() {
        EDGES.says(20, "NONE");
        EDGES.same("no bars, none told", told(Desk.empty(), 0), x -> x.tells(3, 0), NONE);
        EDGES.same("no bars, none told", told(Desk.pins(12), 1), x -> x.tells(3, 0), NONE);
        EDGES.same("a bar", told(Desk.bars(2, "01"), 1, 1), x -> x.tells(3, 0), NONE);
        EDGES.same("six", told(FOUR, 1, 1, 1, 1, 1, 1, 9), x -> x.tells(3, 0), NONE);
    }

    private static void tells24() {
        EDGES.says(20, "BAR by BAR", "of 24");
        int[] items = with(with(with(ones(24), 21, 0), 22, 0), 23, 0);
        Desk desk = Desk.bars(12, FAN_24);
        EDGES.same("all so", told(desk, 0, items), x -> x.tells(3, 0), NONE);
        EDGES.same("the last otherwise", told(desk, 0, with(items, 23, 1)), x -> x.tells(3, 0), 23);
        EDGES.same("the 21st otherwise", told(desk, 1, with(items, 20, 2)), x -> x.tells(3, 0), 20);
    }

    private static void lastOnes() {
        EDGES.says(20, "BARS (bits by PLACES) of which each, were it the last one instead, would make all so as told");
        Desk tail = Desk.bars(5, Desk.TETRA + " 34");
        EDGES.same("as it is", told(tail, 0, 1, 1, 1, 1, 1, 0, 1), x -> x.tells(3, 1), 64);
        EDGES.same("one of the four is the last", told(tail, 0, 1, 1, 1, 1, 1, 1, 0), x -> x.tells(3, 1), 63);
        EDGES.same("never all", told(tail, 0, 1, 1, 1, 1, 1, 1, 1), x -> x.tells(3, 1), 0);
        EDGES.same("never the first", told(tail, 0, 0, 1, 1, 1, 1, 1, 1), x -> x.tells(3, 1), 0);
        // The tail first: with any of the four last the extra one is the seventh; with the tail last it is the sixth.
        Desk head = Desk.bars(5, "34 " + Desk.TETRA);
        EDGES.same("one of the four is the last", told(head, 0, 1, 1, 1, 1, 1, 1, 0), x -> x.tells(3, 1), 126);
        EDGES.same("the tail is the last", told(head, 0, 1, 1, 1, 1, 1, 0, 1), x -> x.tells(3, 1), 1);
        EDGES.same("a bar", told(Desk.bars(2, "01"), 0, 1), x -> x.tells(3, 1), 1);
        EDGES.same("a bar, told not so", told(Desk.bars(2, "01"), 0, 0), x -> x.tells(3, 1), 0);
    }

    private static void lastOnesInOrder() {
        EDGES.says(20, "(the others in their order ahead of it)");
        // Two fours, the first's sixth bar at place 5, the second's at place 11.
        Desk two = Desk.bars(8, Desk.TETRA + " 45 46 56 67 47 57");
        EDGES.same("a bar of the second", told(two, 0, 1, 1, 1, 1, 1, 0, 1, 1, 1, 1, 1, 0), x -> x.tells(3, 1), 63 << 6);
        EDGES.same("a bar of the first", told(two, 0, 1, 1, 1, 1, 1, 1, 1, 1, 1, 1, 0, 0), x -> x.tells(3, 1), 63);
        EDGES.same("no bar", told(two, 0, 1, 1, 1, 1, 0, 1, 1, 1, 1, 1, 1, 0), x -> x.tells(3, 1), 0);
    }

    private static void lastOnesOfNone() {
        EDGES.says(20, "BARS (1; bits)", "of no BARS");
        EDGES.same("none told", told(Desk.empty(), 0), x -> x.tells(3, 1), 0);
        EDGES.same("none told", told(Desk.pins(12), 1), x -> x.tells(3, 1), 0);
        EDGES.same("one told", told(Desk.pins(12), 1, 1), x -> x.tells(3, 1), 0);
    }

    private static void lastOnesOf24() {
        EDGES.says(20, "BARS (bits by PLACES)", "of 24");
        int[] carrying = with(with(with(ones(24), 21, 0), 22, 0), 23, 0);
        PebbleBars x = told(Desk.bars(12, FAN_24), 0, carrying).make();
        int got = x.tells(3, 1);
        due("the last three may be the last", got >> 21, 7);
        due("24 bits at most", got & ~ALL_24, 0);
        // With one of the fan's bars as the last one 1-11 carries in its stead, at place 20.
        due("each of the fan's bars", got & (1 << 21) - 1, (1 << 21) - 1);
        Desk loose = told(Desk.bars(12, Desk.TWO_TO_TEN), 1, ones(20));
        EDGES.same("each of 20 that carry", loose, y -> y.tells(3, 1), (1 << 20) - 1);
    }

    private static void lastOnesTooFewTooMany() {
        EDGES.says(20, "would make all so as told", "not, if too few or too many are told");
        EDGES.same("none told", told(FOUR, 0), x -> x.tells(3, 1), 0);
        EDGES.same("five of six", told(FOUR, 0, 1, 1, 1, 1, 1), x -> x.tells(3, 1), 0);
        EDGES.same("six of six", told(FOUR, 0, 1, 1, 1, 1, 1, 0), x -> x.tells(3, 1), 63);
        EDGES.same("seven of six", told(FOUR, 0, 1, 1, 1, 1, 1, 0, 0), x -> x.tells(3, 1), 0);
        EDGES.same("24 of six", told(FOUR, 0, new int[24]), x -> x.tells(3, 1), 0);
    }

    // ---- 21: film

    private static void filmSheets() {
        EDGES.says(21, "BAD");
        for (int sheet : new int[] {-1, 4, -2, 5, MOST, LEAST}) {
            EDGES.same("film(" + sheet + ")", FULL_DESK, x -> x.film(sheet), BAD);
            EDGES.same("film(" + sheet + "), no pins", Desk.empty(), x -> x.film(sheet), BAD);
        }
        for (int sheet = 0; sheet < 4; sheet++) {
            PebbleBars x = FULL_DESK.make();
            due("film(" + sheet + ")", x.film(sheet), 24);
            due("tells(" + sheet + ", 0)", x.tells(sheet, 0), NONE);
        }
    }

    private static void filmOfNoBars() {
        EDGES.says(21, "how many BARS", "none");
        Desk as = Desk.empty().then(x -> x.sheet(2, 0, 0));
        EDGES.leaves("no pins", Desk.empty(), x -> x.film(2), 0, as);
        EDGES.leaves("of a sheet of 40 ints", Desk.empty().then(x -> x.sheet(2, 1, 40)), x -> x.film(2), 0, as);
        PebbleBars x = Desk.pins(12).make();
        due("no bars", x.film(0), 0);
        due("no items", x.put(0, 0, 0), OUTSIDE);
    }

    private static void filmOf24() {
        EDGES.says(21, "BAR by BAR, whether it is CARRYING (bytes): how many BARS", "24");
        int[] items = with(with(with(ones(24), 21, 0), 22, 0), 23, 0);
        Desk desk = Desk.bars(12, FAN_24);
        EDGES.leaves("a missing one", desk, x -> x.film(3), 24, told(desk, 0, items));
        EDGES.leaves("one of 40", desk.then(x -> x.sheet(3, 1, 40)), x -> x.film(3), 24, told(desk, 0, items));
        PebbleBars x = desk.make();
        x.film(3);
        due("the last item", x.put(3, 23, 0), 1);
        due("no item more", x.put(3, 24, 0), OUTSIDE);
        due("of bytes", x.load(3, 0, 0, 0), 0);
        due("not of ints", x.load(3, 1, 0, 0), OTHER_SORT);
    }

    private static void filmTruly() {
        EDGES.says(21, "A SHEET truly becomes");
        Desk as = told(FOUR, 0, 1, 1, 1, 1, 1, 0);
        EDGES.leaves("of more ints", told(FOUR, 1, 9, 9, 9, 9, 9, 9, 9), x -> x.film(3), 6, as);
        EDGES.leaves("of fewer bytes", told(FOUR, 0, 9, 9), x -> x.film(3), 6, as);
        EDGES.leaves("of as many", told(FOUR, 0, 1, 1, 1, 1, 1, 1), x -> x.film(3), 6, as);
        PebbleBars x = FOUR.make();
        x.film(3);
        x.off(0, 1);
        due("what was told stays", x.tells(3, 0), 5);
        due("again", x.film(3), 5);
        due("as it is now", x.tells(3, 0), NONE);
    }

    private static void filmChangesNothingElse() {
        EDGES.says(21, "A SHEET .. becomes", "no other thing");
        Desk as = FULL_DESK.then(x -> fill(x, 3, 0, with(with(with(ones(24), 21, 0), 22, 0), 23, 0)));
        EDGES.leaves("the full desk", FULL_DESK, x -> x.film(3), 24, as);
    }

    // ---- 22: image

    private static void imageOfNone() {
        EDGES.says(22, "how many PINS", "none");
        due("no pins", new PebbleBars().image(), 0);
        due("one pin", Desk.pins(1).make().image(), 1);
        PebbleBars x = new PebbleBars();
        x.image();
        Checks.told(x, "pin a");
        due("an image of none is one", x.back(), 0);
        due("the pin is gone", x.told(0), 0);
        due("its name, too", Checks.named(x, "a"), NONE);
    }

    private static void imageOfTwelve() {
        EDGES.says(22, "how many PINS", "twelve");
        PebbleBars x = FULL_DESK.make();
        due("twelve pins", x.image(), 12);
        x.off(0, 1);
        x.off(3, 5);
        x.bar(1, 11);
        due("back", x.back(), 12);
        due("all bars", x.told(1), 24);
        due("the first", x.between(0, 1), 0);
        due("the last", x.between(3, 5), 23);
        due("the one that came", x.between(1, 11), NONE);
    }

    private static void imageChangesNothing() {
        EDGES.says(22, "AN IMAGE is kept", "all else is as it was");
        Desk desk = FULL_DESK.fed("bar b l");
        PebbleBars x = desk.make();
        due("twelve", x.image(), 12);
        due("bars", x.told(1), 24);
        due("bytes", x.told(8), 7);
        due("the sheet", x.put(0, 39, 0), 1);
        due("the text", x.text(), FULL);
        Desk made = Desk.pins(3).then(PebbleBars::image);
        EDGES.same("a second image of the same", made, PebbleBars::image, 3);
    }

    private static void imageAgain() {
        EDGES.says(22, "AN IMAGE is kept", "the last one alone");
        PebbleBars x = FULL_DESK.make();
        due("back to the first", x.back(), 11);
        due("its image", x.image(), 11);
        x.off(1, 2);
        due("an image of a bar less", x.image(), 11);
        x.bar(5, 6);
        due("back", x.back(), 11);
        EDGES.dueLine("the last image", x, "a-k");
    }

    // ---- 23: back

    private static void backOfNone() {
        EDGES.says(23, "STATE: there is none");
        EDGES.same("no pins", Desk.empty(), PebbleBars::back, STATE);
        EDGES.same("twelve pins, 24 bars", Desk.bars(12, FAN_24), PebbleBars::back, STATE);
        EDGES.same("with a tape and sheets", told(FOUR, 0, 1, 1).fed("pin x"), PebbleBars::back, STATE);
    }

    private static void backOfEmpty() {
        EDGES.says(23, "All that it keeps is as in THE IMAGE: how many PINS", "none");
        Desk empty = Desk.empty().then(PebbleBars::image);
        Desk filled = empty.then(x -> {
            for (int p = 0; p < 12; p++) {
                Checks.told(x, "pin " + (char) ('a' + p));
            }
            for (String pair : FAN_24.split(" ")) {
                x.bar(Character.digit(pair.charAt(0), 12), Character.digit(pair.charAt(1), 12));
            }
        });
        EDGES.leaves("from twelve pins, 24 bars", filled, PebbleBars::back, 0, empty);
    }

    private static void backOfFull() {
        EDGES.says(23, "All that it keeps is as in THE IMAGE", "twelve PINS, 24 BARS");
        Desk kept = Desk.bars(12, FAN_24).then(PebbleBars::image);
        Desk changed = kept.then(x -> {
            for (String pair : FAN_24.split(" ")) {
                x.off(Character.digit(pair.charAt(0), 12), Character.digit(pair.charAt(1), 12));
            }
            x.bar(5, 9);
        });
        EDGES.leaves("from one bar", changed, PebbleBars::back, 12, kept);
        EDGES.same("from the same", kept, PebbleBars::back, 12);
        PebbleBars x = changed.make();
        x.back();
        due("a pin too many", Checks.told(x, "pin zz"), FULL);
        due("a bar too many", x.bar(5, 9), FULL);
    }

    private static void backKeepsTheRest() {
        EDGES.says(23, "All that it keeps", "PINS, BARS; not THE TAPE, not SHEETS");
        Desk desk = Desk.bars(3, "01 12").then(PebbleBars::image).then(x -> {
            x.off(0, 1);
            Checks.told(x, "pin dd");
            fill(x, 1, 1, 0, 2, 2, 1);
        }).fed("dd");
        Desk as = Desk.bars(3, "01 12").then(PebbleBars::image).then(x -> fill(x, 1, 1, 0, 2, 2, 1)).fed("dd");
        EDGES.leaves("back", desk, PebbleBars::back, 3, as);
    }

    private static void backAgain() {
        EDGES.says(23, "as in THE IMAGE", "as often as is asked");
        PebbleBars x = Desk.bars(3, "01").then(PebbleBars::image).make();
        for (int i = 0; i < 3; i++) {
            Checks.told(x, "pin " + (char) ('p' + i));
            x.bar(0, 3);
            x.off(0, 1);
            due("back " + i, x.back(), 3);
            EDGES.dueLine("back " + i, x, "a-b");
        }
    }
}
