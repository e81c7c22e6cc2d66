/** Boundary cases of promises 24 to 27, sentence by sentence: the host's sheets. */
public final class EdgesHostTest {
    private static final int NONE = Edges.NONE, BAD = Edges.BAD;
    private static final int MISSING = Edges.MISSING, OUTSIDE = Edges.OUTSIDE;
    private static final int OTHER_SORT = Edges.OTHER_SORT, BELOW_ZERO = Edges.BELOW_ZERO;
    private static final int MOST = Edges.MOST, LEAST = Edges.LEAST;
    private static final int[] NO_SHEETS = {-1, 4, -2, 5, MOST, LEAST};

    private static final Edges EDGES = new Edges();
    /** 12 pins, 24 bars; sheet 0: 40 ints, 1: 40 bytes, 2: no bytes, 3: missing. */
    private static final Desk FULL_DESK = Desk.full();
    /** The same sheets, 12 pins, no bars. */
    private static final Desk NO_BARS = FULL_DESK.then(x -> {
        while (x.told(1) > 0) {
            x.off(x.barAt(0, 0), x.barAt(0, 1));
        }
    });

    public static void main(String[] args) {
        sheetNumbers();
        sheetSorts();
        sheetAbove40();
        sheetBelow0();
        sheetRefusedFirst();
        sheetOfNone();
        sheetOf40();
        sheetAllZero();
        sheetMissing();
        putSheets();
        putMissing();
        putOutside();
        putRefusedFirst();
        putBytes();
        putInts();
        copySheets();
        copyMissing();
        copyUnlikeSorts();
        copyOutside();
        copyBelow0();
        copyNone();
        copyRefusedFirst();
        copyAll();
        copyAsTheyWere();
        loadBad();
        loadOtherSort();
        loadMissing();
        loadRefusedFirst();
        loadNone();
        loadOutside();
        loadWhatStoodAhead();
        loadHalfABar();
        loadUpTo20();
        loadLeftOut();
        loadFull();
        loadNoPins();
        loadWholeNumbers();
        EDGES.close();
    }

    private static void due(String call, int got, int want) {
        EDGES.due(call, got, want);
    }

    private static void fill(PebbleBars x, int sheet, int sort, int... items) {
        x.sheet(sheet, sort, items.length);
        for (int i = 0; i < items.length; i++) {
            x.put(sheet, i, items[i]);
        }
    }

    private static Desk filled(Desk desk, int sheet, int sort, int... items) {
        return desk.then(x -> fill(x, sheet, sort, items));
    }

    // ---- 24: sheet

    private static void sheetNumbers() {
        EDGES.says(24, "BAD: no such SHEET");
        for (int sheet : NO_SHEETS) {
            EDGES.same("sheet(" + sheet + ", 0, 3)", FULL_DESK, x -> x.sheet(sheet, 0, 3), BAD);
            EDGES.same("sheet(" + sheet + ", -1, 0)", FULL_DESK, x -> x.sheet(sheet, -1, 0), BAD);
        }
        for (int sheet = 0; sheet < 4; sheet++) {
            PebbleBars x = new PebbleBars();
            due("sheet(" + sheet + ", 0, 3)", x.sheet(sheet, 0, 3), 1);
            for (int other = 0; other < 4; other++) {
                due("put(" + other + ", 2, 1)", x.put(other, 2, 1), other == sheet ? 1 : MISSING);
            }
        }
    }

    private static void sheetSorts() {
        EDGES.says(24, "BAD: .. sort");
        for (int sort : new int[] {-2, 2, -3, 3, MOST, LEAST}) {
            EDGES.same("sort " + sort, FULL_DESK, x -> x.sheet(0, sort, 3), BAD);
            EDGES.same("sort " + sort + ", missing", FULL_DESK, x -> x.sheet(3, sort, 0), BAD);
        }
        due("sort 0", new PebbleBars().sheet(0, 0, 3), 1);
        due("sort 1", new PebbleBars().sheet(0, 1, 3), 1);
        due("sort -1", new PebbleBars().sheet(0, -1, 3), 1);
    }

    private static void sheetAbove40() {
        EDGES.says(24, "BAD: .. n above 40");
        for (int sort = 0; sort < 2; sort++) {
            int s = sort;
            for (int n : new int[] {41, 42, 100, MOST}) {
                EDGES.same("sort " + sort + ", n " + n, FULL_DESK, x -> x.sheet(0, s, n), BAD);
                EDGES.same("sort " + sort + ", n " + n + ", missing", FULL_DESK, x -> x.sheet(3, s, n), BAD);
            }
            due("sort " + sort + ", n 40", FULL_DESK.make().sheet(3, sort, 40), 1);
            due("sort " + sort + ", n 39", FULL_DESK.make().sheet(3, sort, 39), 1);
        }
    }

    private static void sheetBelow0() {
        EDGES.says(24, "-14");
        for (int sort = 0; sort < 2; sort++) {
            int s = sort;
            for (int n : new int[] {-1, -2, -40, LEAST}) {
                EDGES.same("sort " + sort + ", n " + n, FULL_DESK, x -> x.sheet(1, s, n), BELOW_ZERO);
                EDGES.same("sort " + sort + ", n " + n + ", missing", FULL_DESK, x -> x.sheet(3, s, n), BELOW_ZERO);
            }
        }
    }

    private static void sheetRefusedFirst() {
        EDGES.says(24, "BAD: no such SHEET, sort; n above 40; -14");
        EDGES.same("no sheet, n below 0", FULL_DESK, x -> x.sheet(4, 0, -1), BAD);
        EDGES.same("no sort, n below 0", FULL_DESK, x -> x.sheet(0, 2, -1), BAD);
        EDGES.same("no sort, n below 0", FULL_DESK, x -> x.sheet(0, -2, LEAST), BAD);
        EDGES.same("no sheet, no sort, n above 40", FULL_DESK, x -> x.sheet(-1, 9, 41), BAD);
    }

    private static void sheetOfNone() {
        EDGES.says(24, "a row of n of a sort", "of 0");
        for (int sort = 0; sort < 2; sort++) {
            PebbleBars x = new PebbleBars();
            due("n 0", x.sheet(1, sort, 0), 1);
            due("no item", x.put(1, 0, 1), OUTSIDE);
            due("not missing", x.copy(1, 0, 1, 0, 0), 0);
            due("its sort", x.load(1, sort, 0, 0), 0);
            due("not the other", x.load(1, 1 - sort, 0, 0), OTHER_SORT);
            due("tells nothing", x.tells(1, 0), NONE);
        }
    }

    private static void sheetOf40() {
        EDGES.says(24, "a row of n of a sort", "of 40");
        for (int sort = 0; sort < 2; sort++) {
            PebbleBars x = new PebbleBars();
            due("n 40", x.sheet(1, sort, 40), 1);
            due("the last item", x.put(1, 39, 1), 1);
            due("no item more", x.put(1, 40, 1), OUTSIDE);
            due("all copied", x.copy(1, 0, 1, 0, 40), 40);
            due("no more copied", x.copy(1, 0, 1, 0, 41), OUTSIDE);
        }
    }

    private static void sheetAllZero() {
        EDGES.says(24, "all 0");
        Desk pins = Desk.pins(12);
        for (int sort = 0; sort < 2; sort++) {
            int s = sort;
            Desk zeros = filled(pins, 0, sort, new int[40]);
            EDGES.leaves("of 40 others", filled(pins, 0, sort, sevens(40)), x -> x.sheet(0, s, 40), 1, zeros);
            EDGES.leaves("of the other sort", filled(pins, 0, 1 - sort, sevens(40)), x -> x.sheet(0, s, 40), 1, zeros);
            // What was told of items that went does not come again.
            Desk less = filled(pins, 0, sort, sevens(40)).then(x -> x.sheet(0, s, 2));
            EDGES.leaves("of two of 40", less, x -> x.sheet(0, s, 40), 1, zeros);
            Desk gone = filled(pins, 0, sort, sevens(40)).then(x -> x.sheet(0, -1, 0));
            EDGES.leaves("of a missing one", gone, x -> x.sheet(0, s, 40), 1, zeros);
        }
        // Zeros are pin 0: with a 1 behind each there is a bar 0-1.
        PebbleBars x = filled(pins, 0, 1, sevens(4)).make();
        x.sheet(0, 1, 4);
        x.put(0, 1, 1);
        x.put(0, 3, 2);
        due("0 each", x.load(0, 1, 0, 2), 2);
        EDGES.dueLine("0 each", x, "a-b a-c");
    }

    private static int[] sevens(int n) {
        int[] items = new int[n];
        for (int i = 0; i < n; i++) {
            items[i] = 7;
        }
        return items;
    }

    private static void sheetMissing() {
        EDGES.says(24, "or missing (sort -1: n does not matter)");
        for (int n : new int[] {0, 1, 40, 41, -1, MOST, LEAST}) {
            for (int sheet = 0; sheet < 4; sheet++) {
                int s = sheet;
                PebbleBars x = FULL_DESK.make();
                due("sheet(" + s + ", -1, " + n + ")", x.sheet(s, -1, n), 1);
                due("put", x.put(s, 0, 0), MISSING);
            }
        }
        EDGES.same("missing already", FULL_DESK, x -> x.sheet(3, -1, 7), 1);
    }

    // ---- 25: put

    private static void putSheets() {
        EDGES.says(25, "BAD: no such SHEET");
        for (int sheet : NO_SHEETS) {
            EDGES.same("put(" + sheet + ", 0, 1)", FULL_DESK, x -> x.put(sheet, 0, 1), BAD);
        }
    }

    private static void putMissing() {
        EDGES.says(25, "-11");
        EDGES.same("item 0", FULL_DESK, x -> x.put(3, 0, 1), MISSING);
        EDGES.same("item 0, no pins", Desk.empty(), x -> x.put(0, 0, 1), MISSING);
        EDGES.same("made missing", FULL_DESK.then(x -> x.sheet(0, -1, 0)), x -> x.put(0, 0, 1), MISSING);
    }

    private static void putOutside() {
        EDGES.says(25, "-12");
        for (int sheet = 0; sheet < 2; sheet++) {
            int s = sheet;
            for (int i : new int[] {-1, 40, -2, 41, 64, MOST, LEAST}) {
                EDGES.same("item " + i + " of 40", FULL_DESK, x -> x.put(s, i, 1), OUTSIDE);
            }
        }
        for (int i : new int[] {-1, 0, 1, 39, MOST, LEAST}) {
            EDGES.same("item " + i + " of none", FULL_DESK, x -> x.put(2, i, 1), OUTSIDE);
        }
        for (int i : new int[] {-1, 3, 4, 39, 40}) {
            EDGES.same("item " + i + " of three", filled(Desk.pins(2), 1, 1, 1, 1, 1), x -> x.put(1, i, 0), OUTSIDE);
        }
        due("the first", FULL_DESK.make().put(0, 0, 1), 1);
        due("the last", FULL_DESK.make().put(0, 39, 1), 1);
        due("the last of three", filled(Desk.pins(2), 1, 1, 1, 1, 1).make().put(1, 2, 0), 1);
    }

    private static void putRefusedFirst() {
        EDGES.says(25, "BAD: no such SHEET; -11; -12");
        EDGES.same("no sheet, outside", FULL_DESK, x -> x.put(4, -1, 1), BAD);
        EDGES.same("missing, below", FULL_DESK, x -> x.put(3, -1, 1), MISSING);
        EDGES.same("missing, far out", FULL_DESK, x -> x.put(3, MOST, 1), MISSING);
    }

    private static void putBytes() {
        EDGES.says(25, "(of bytes its lowest 8 bits)");
        Desk pins = Desk.pins(12);
        int[][] cases = {{0, 0}, {11, 11}, {255, 255}, {256, 0}, {257, 1}, {267, 11}, {-1, 255}, {-256, 0}, {-245, 11},
            {LEAST, 0}, {LEAST + 5, 5}, {MOST, 255}, {MOST - 255, 0}, {65536 + 3, 3}};
        for (int[] one : cases) {
            EDGES.leaves("v " + one[0], filled(pins, 0, 0, 9, 10, 9, 8), x -> x.put(0, 1, one[0]), 1,
                    filled(pins, 0, 0, 9, one[1], 9, 8));
        }
        PebbleBars x = filled(pins, 0, 0, 1, 2).make();
        x.put(0, 0, 256 + 11);
        due("as a pin", x.load(0, 0, 0, 1), 1);
        EDGES.dueLine("as a pin", x, "c-l");
        x.put(0, 0, 255);
        due("no pin", x.load(0, 0, 0, 1), 0);
    }

    private static void putInts() {
        EDGES.says(25, "Item i of a SHEET becomes v");
        Desk pins = Desk.pins(12);
        for (int v : new int[] {-1, 12, 256, 257, 267, -256, -245, LEAST, LEAST + 5, MOST, 65536 + 3}) {
            PebbleBars x = filled(pins, 0, 1, 9, 10).make();
            due("v " + v, x.put(0, 0, v), 1);
            due("it is no pin", x.load(0, 1, 0, 1), 0);
            due("put again", x.put(0, 0, 0), 1);
            due("it is one", x.load(0, 1, 0, 1), 1);
            EDGES.dueLine("v " + v, x, "a-k");
        }
        EDGES.leaves("that item alone", filled(pins, 0, 1, 1, 2, 3, 4), x -> x.put(0, 3, 5), 1,
                filled(pins, 0, 1, 1, 2, 3, 5));
        EDGES.leaves("that item alone", filled(pins, 0, 1, 1, 2, 3, 4), x -> x.put(0, 0, 5), 1,
                filled(pins, 0, 1, 5, 2, 3, 4));
    }

    // ---- 26: copy

    private static void copySheets() {
        EDGES.says(26, "BAD: no such SHEET");
        for (int sheet : NO_SHEETS) {
            EDGES.same("from " + sheet, FULL_DESK, x -> x.copy(sheet, 0, 0, 0, 1), BAD);
            EDGES.same("to " + sheet, FULL_DESK, x -> x.copy(0, 0, sheet, 0, 1), BAD);
            EDGES.same("from and to " + sheet, FULL_DESK, x -> x.copy(sheet, 0, sheet, 0, 0), BAD);
        }
    }

    private static void copyMissing() {
        EDGES.says(26, "-11");
        for (int n = 0; n < 2; n++) {
            int some = n;
            EDGES.same("from, n " + n, FULL_DESK, x -> x.copy(3, 0, 0, 0, some), MISSING);
            EDGES.same("to, n " + n, FULL_DESK, x -> x.copy(0, 0, 3, 0, some), MISSING);
            EDGES.same("both, n " + n, FULL_DESK, x -> x.copy(3, 0, 3, 0, some), MISSING);
        }
    }

    private static void copyUnlikeSorts() {
        EDGES.says(26, "-13: they are of unlike sorts");
        EDGES.same("ints to bytes", FULL_DESK, x -> x.copy(0, 0, 1, 0, 1), OTHER_SORT);
        EDGES.same("bytes to ints", FULL_DESK, x -> x.copy(1, 0, 0, 0, 1), OTHER_SORT);
        EDGES.same("ints to none of bytes, n 0", FULL_DESK, x -> x.copy(0, 0, 2, 0, 0), OTHER_SORT);
        EDGES.same("none of bytes to ints, n 0", FULL_DESK, x -> x.copy(2, 0, 0, 0, 0), OTHER_SORT);
    }

    private static void copyOutside() {
        EDGES.says(26, "-12");
        int[][] outside = {{-1, 0, 1}, {0, -1, 1}, {40, 0, 1}, {0, 40, 1}, {39, 0, 2}, {0, 39, 2}, {1, 0, 40}, {0, 1, 40},
            {0, 0, 41}, {MOST, 0, 1}, {0, MOST, 1}, {LEAST, 0, 1}, {0, LEAST, 1}, {0, 0, MOST}, {1, 0, MOST}, {0, 1, MOST},
            {MOST, MOST, MOST}, {MOST, 0, MOST}, {20, 20, MOST - 20}, {-1, 0, 0}, {0, -1, 0}, {41, 0, 0}, {0, 41, 0},
            {MOST, 0, 0}, {0, LEAST, 0}};
        for (int[] v : outside) {
            String call = "items " + v[0] + " to " + v[1] + ", n " + v[2];
            EDGES.same(call, FULL_DESK, x -> x.copy(0, v[0], 0, v[1], v[2]), OUTSIDE);
            EDGES.same(call, FULL_DESK, x -> x.copy(1, v[0], 1, v[1], v[2]), OUTSIDE);
        }
        EDGES.same("from one of none", FULL_DESK, x -> x.copy(2, 0, 1, 0, 1), OUTSIDE);
        EDGES.same("to one of none", FULL_DESK, x -> x.copy(1, 0, 2, 0, 1), OUTSIDE);
        Desk desk = filled(filled(Desk.pins(4), 0, 1, 1, 2, 3), 1, 1, 0, 0, 0, 0, 0);
        EDGES.same("four of three", desk, x -> x.copy(0, 0, 1, 0, 4), OUTSIDE);
        EDGES.same("four to three", desk, x -> x.copy(1, 0, 0, 0, 4), OUTSIDE);
        EDGES.same("to item 3 of five", desk, x -> x.copy(0, 0, 1, 3, 3), OUTSIDE);
        due("to item 2 of five", desk.make().copy(0, 0, 1, 2, 3), 3);
    }

    private static void copyBelow0() {
        EDGES.says(26, "-12 (also with n below 0)");
        for (int n : new int[] {-1, -2, -40, LEAST}) {
            EDGES.same("n " + n, FULL_DESK, x -> x.copy(0, 0, 0, 0, n), OUTSIDE);
            EDGES.same("n " + n + ", from the middle", FULL_DESK, x -> x.copy(1, 20, 1, 20, n), OUTSIDE);
            EDGES.same("n " + n + ", from the end", FULL_DESK, x -> x.copy(0, 40, 0, 40, n), OUTSIDE);
            EDGES.same("n " + n + ", of none", FULL_DESK, x -> x.copy(2, 0, 2, 0, n), OUTSIDE);
        }
    }

    private static void copyNone() {
        EDGES.says(26, "n numbers", "none");
        EDGES.same("from the first", FULL_DESK, x -> x.copy(0, 0, 0, 0, 0), 0);
        EDGES.same("from the last", FULL_DESK, x -> x.copy(0, 39, 0, 39, 0), 0);
        EDGES.same("from behind the last", FULL_DESK, x -> x.copy(0, 40, 0, 40, 0), 0);
        EDGES.same("of none", FULL_DESK, x -> x.copy(2, 0, 2, 0, 0), 0);
        EDGES.same("from none to 40", FULL_DESK, x -> x.copy(2, 0, 1, 40, 0), 0);
    }

    private static void copyRefusedFirst() {
        EDGES.says(26, "BAD: no such SHEET; -11; -13: they are of unlike sorts; -12");
        EDGES.same("no sheet, missing", FULL_DESK, x -> x.copy(4, 0, 3, 0, 1), BAD);
        EDGES.same("missing, no sheet", FULL_DESK, x -> x.copy(3, 0, 4, 0, 1), BAD);
        EDGES.same("no sheet, outside", FULL_DESK, x -> x.copy(-1, -1, 0, -1, -1), BAD);
        EDGES.same("missing, outside", FULL_DESK, x -> x.copy(3, -1, 0, 0, -1), MISSING);
        EDGES.same("to a missing one, outside", FULL_DESK, x -> x.copy(1, 41, 3, 0, 1), MISSING);
        EDGES.same("unlike sorts, outside", FULL_DESK, x -> x.copy(0, 41, 1, -1, 1), OTHER_SORT);
        EDGES.same("unlike sorts, n below 0", FULL_DESK, x -> x.copy(1, 0, 0, 0, -1), OTHER_SORT);
    }

    private static void copyAll() {
        EDGES.says(26, "n numbers of a SHEET, from item i on, come to another one's item j on .. n");
        Desk desk = FULL_DESK.then(x -> {
            x.sheet(2, 0, 40);
            x.sheet(3, 1, 40);
        });
        Desk bytes = desk.then(x -> {
            for (int i = 0; i < 20; i++) {
                x.put(2, 2 * i, i < 10 ? 11 : 10);
                x.put(2, 2 * i + 1, i < 10 ? i + 1 : i - 10);
            }
        });
        EDGES.leaves("40 bytes", desk, x -> x.copy(1, 0, 2, 0, 40), 40, bytes);
        EDGES.leaves("the first", desk, x -> x.copy(0, 1, 3, 0, 1), 1, desk.then(x -> x.put(3, 0, 1)));
        EDGES.leaves("the last", desk, x -> x.copy(0, 39, 3, 39, 1), 1, desk.then(x -> x.put(3, 39, 10)));
        EDGES.leaves("the last to the first", desk, x -> x.copy(0, 39, 3, 0, 1), 1, desk.then(x -> x.put(3, 0, 10)));
        EDGES.leaves("one beyond 8 bits", filled(desk, 0, 1, 256, 267), x -> x.copy(0, 0, 3, 0, 2), 2,
                filled(desk, 0, 1, 256, 267).then(x -> {
                    x.put(3, 0, 256);
                    x.put(3, 1, 267);
                }));
    }

    private static void copyAsTheyWere() {
        EDGES.says(26, "(as they were)");
        Desk pins = Desk.pins(12);
        for (int sort = 0; sort < 2; sort++) {
            Desk six = filled(pins, 0, sort, 0, 1, 2, 3, 4, 5);
            EDGES.leaves("forward", six, x -> x.copy(0, 0, 0, 1, 5), 5, filled(pins, 0, sort, 0, 0, 1, 2, 3, 4));
            EDGES.leaves("backward", six, x -> x.copy(0, 1, 0, 0, 5), 5, filled(pins, 0, sort, 1, 2, 3, 4, 5, 5));
            EDGES.leaves("forward by two", six, x -> x.copy(0, 1, 0, 3, 3), 3, filled(pins, 0, sort, 0, 1, 2, 1, 2, 3));
            EDGES.leaves("backward by two", six, x -> x.copy(0, 2, 0, 0, 4), 4, filled(pins, 0, sort, 2, 3, 4, 5, 4, 5));
            EDGES.same("onto themselves", six, x -> x.copy(0, 0, 0, 0, 6), 6);
        }
    }

    // ---- 27: load

    private static void loadBad() {
        EDGES.says(27, "BAD: no such SHEET, sort, n");
        for (int sheet : NO_SHEETS) {
            EDGES.same("sheet " + sheet, NO_BARS, x -> x.load(sheet, 1, 0, 1), BAD);
            EDGES.same("sheet " + sheet + ", n 0", NO_BARS, x -> x.load(sheet, 0, 0, 0), BAD);
        }
        for (int sort : new int[] {-1, 2, -2, 3, MOST, LEAST}) {
            EDGES.same("sort " + sort, NO_BARS, x -> x.load(0, sort, 0, 1), BAD);
            EDGES.same("sort " + sort + ", of a missing one", NO_BARS, x -> x.load(3, sort, 0, 1), BAD);
        }
        for (int n : new int[] {-1, 25, -2, 26, MOST, LEAST}) {
            EDGES.same("n " + n, NO_BARS, x -> x.load(0, 1, 0, n), BAD);
            EDGES.same("n " + n + ", bytes", NO_BARS, x -> x.load(1, 0, 0, n), BAD);
        }
    }

    private static void loadOtherSort() {
        EDGES.says(27, "-13 .. with n 0, too");
        for (int n : new int[] {0, 1, 20, 24}) {
            EDGES.same("ints for bytes, n " + n, NO_BARS, x -> x.load(0, 0, 0, n), OTHER_SORT);
            EDGES.same("bytes for ints, n " + n, NO_BARS, x -> x.load(1, 1, 0, n), OTHER_SORT);
            EDGES.same("no bytes for ints, n " + n, NO_BARS, x -> x.load(2, 1, 0, n), OTHER_SORT);
        }
    }

    private static void loadMissing() {
        EDGES.says(27, "-11 (both with n 0, too)");
        for (int n : new int[] {0, 1, 24}) {
            EDGES.same("for bytes, n " + n, NO_BARS, x -> x.load(3, 0, 0, n), MISSING);
            EDGES.same("for ints, n " + n, NO_BARS, x -> x.load(3, 1, 0, n), MISSING);
            Desk gone = NO_BARS.then(x -> x.sheet(0, -1, 0));
            EDGES.same("it had ints, for bytes, n " + n, gone, x -> x.load(0, 0, 0, n), MISSING);
            EDGES.same("it had ints, for ints, n " + n, gone, x -> x.load(0, 1, 0, n), MISSING);
        }
    }

    private static void loadRefusedFirst() {
        EDGES.says(27, "BAD: no such SHEET, sort, n; -13; -11 .. -12");
        EDGES.same("n 25, of another sort", NO_BARS, x -> x.load(0, 0, 0, 25), BAD);
        EDGES.same("n -1, missing", NO_BARS, x -> x.load(3, 0, 0, -1), BAD);
        EDGES.same("n 25, outside", NO_BARS, x -> x.load(0, 1, -1, 25), BAD);
        EDGES.same("of another sort, outside", NO_BARS, x -> x.load(0, 0, -1, 1), OTHER_SORT);
        EDGES.same("of another sort, far out", NO_BARS, x -> x.load(1, 1, MOST, 24), OTHER_SORT);
        EDGES.same("missing, outside", NO_BARS, x -> x.load(3, 1, -1, 1), MISSING);
    }

    private static void loadNone() {
        EDGES.says(27, "n of them (0 ..");
        for (int from : new int[] {0, 1, 39, 40, 41, -1, MOST, LEAST}) {
            EDGES.same("ints from " + from, NO_BARS, x -> x.load(0, 1, from, 0), 0);
            EDGES.same("bytes from " + from, NO_BARS, x -> x.load(1, 0, from, 0), 0);
        }
        EDGES.same("of no items", NO_BARS, x -> x.load(2, 0, 0, 0), 0);
    }

    private static void loadOutside() {
        EDGES.says(27, "-12");
        for (int from : new int[] {-1, -2, 39, 40, 41, MOST, MOST - 1, LEAST, LEAST + 1}) {
            for (int n : new int[] {1, 2, 24}) {
                EDGES.same("from " + from + ", n " + n, NO_BARS, x -> x.load(0, 1, from, n), OUTSIDE);
                EDGES.same("from " + from + ", n " + n + ", bytes", NO_BARS, x -> x.load(1, 0, from, n), OUTSIDE);
            }
        }
        EDGES.same("of no items", NO_BARS, x -> x.load(2, 0, 0, 1), OUTSIDE);
        EDGES.leaves("the last two", NO_BARS, x -> x.load(0, 1, 38, 1), 1, NO_BARS.then(x -> x.bar(1, 10)));
        EDGES.leaves("the first two", NO_BARS, x -> x.load(0, 1, 0, 1), 1, NO_BARS.then(x -> x.bar(0, 1)));
    }

    private static void loadWhatStoodAhead() {
        EDGES.says(27, "-12: what stood ahead came");
        EDGES.leaves("two, the second outside", NO_BARS, x -> x.load(0, 1, 38, 2), OUTSIDE, NO_BARS.then(x -> x.bar(1, 10)));
        EDGES.leaves("24, all but one outside", NO_BARS, x -> x.load(1, 0, 38, 24), OUTSIDE, NO_BARS.then(x -> x.bar(9, 10)));
        Desk twenty = NO_BARS.then(x -> x.load(0, 1, 0, 20));
        due("twenty", twenty.make().told(1), 20);
        EDGES.leaves("21 of 40 items", NO_BARS, x -> x.load(0, 1, 0, 21), OUTSIDE, twenty);
        EDGES.leaves("24 of 40 items", NO_BARS, x -> x.load(0, 1, 0, 24), OUTSIDE, twenty);
    }

    private static void loadHalfABar() {
        EDGES.says(27, "two a BAR");
        EDGES.same("the last item", NO_BARS, x -> x.load(0, 1, 39, 1), OUTSIDE);
        Desk three = filled(Desk.pins(12), 0, 0, 5, 6, 7);
        EDGES.leaves("from item 0 of three", three, x -> x.load(0, 0, 0, 2), OUTSIDE, three.then(x -> x.bar(5, 6)));
        EDGES.leaves("from item 1 of three", three, x -> x.load(0, 0, 1, 1), 1, three.then(x -> x.bar(6, 7)));
        EDGES.same("from item 2 of three", three, x -> x.load(0, 0, 2, 1), OUTSIDE);
        EDGES.same("of one item", filled(Desk.pins(2), 0, 1, 0), x -> x.load(0, 1, 0, 1), OUTSIDE);
        EDGES.leaves("of two items", filled(Desk.pins(2), 0, 1, 0, 1), x -> x.load(0, 1, 0, 1), 1,
                filled(Desk.pins(2), 0, 1, 0, 1).then(x -> x.bar(0, 1)));
    }

    private static void loadUpTo20() {
        EDGES.says(27, "n of them (0 .. 24): how many came");
        PebbleBars x = NO_BARS.make();
        due("20 ints", x.load(0, 1, 0, 20), 20);
        due("the first", x.between(0, 1), 0);
        due("the last", x.between(1, 10), 19);
        due("20 bytes: four have room", x.load(1, 0, 0, 20), 4);
        due("24", x.told(1), 24);
        x = NO_BARS.make();
        // Items 1 .. 38, two by two, are 1-0, 2-0 .. 10-0, 11-1, 2-1, 3-1 .. 9-1.
        due("19 from item 1", x.load(0, 1, 1, 19), 19);
        due("20 from item 1", NO_BARS.make().load(0, 1, 1, 20), OUTSIDE);
        due("n 24 is taken", NO_BARS.make().load(0, 1, 0, 24), OUTSIDE);
        due("n 25 is not", NO_BARS.make().load(0, 1, 0, 25), BAD);
    }

    private static void loadLeftOut() {
        EDGES.says(27, "(what bar() refuses is left out)");
        Desk four = Desk.pins(4);
        EDGES.same("the same pin", filled(four, 0, 0, 3, 3), x -> x.load(0, 0, 0, 1), 0);
        EDGES.same("no pin", filled(four, 0, 0, 4, 0), x -> x.load(0, 0, 0, 1), 0);
        EDGES.same("no pin", filled(four, 0, 0, 0, 4), x -> x.load(0, 0, 0, 1), 0);
        Desk twice = filled(four, 0, 0, 0, 1, 1, 0, 0, 1);
        EDGES.leaves("it is there", twice, x -> x.load(0, 0, 0, 3), 1, twice.then(x -> x.bar(0, 1)));
        Desk mixed = filled(four, 0, 1, 9, 9, 2, 3, 3, 2, 0, 0, -1, 0, 0, 3);
        EDGES.leaves("those between", mixed, x -> x.load(0, 1, 0, 6), 2, mixed.then(x -> {
            x.bar(2, 3);
            x.bar(0, 3);
        }));
    }

    private static void loadFull() {
        EDGES.says(27, "(what bar() refuses is left out)", "FULL, too");
        EDGES.same("24 bars", FULL_DESK, x -> x.load(0, 1, 0, 20), 0);
        EDGES.same("24 bars, outside", FULL_DESK, x -> x.load(0, 1, 0, 21), OUTSIDE);
        Desk desk = filled(Desk.bars(12, Desk.FAN + " 13 24"), 0, 1, 1, 11, 2, 11, 3, 11);
        EDGES.leaves("room for one", desk, x -> x.load(0, 1, 0, 3), 1, desk.then(x -> x.bar(1, 11)));
    }

    private static void loadNoPins() {
        EDGES.says(27, "(what bar() refuses is left out)", "without PINS, all");
        EDGES.same("no pins", filled(Desk.empty(), 0, 0, 0, 1, 1, 2), x -> x.load(0, 0, 0, 2), 0);
        EDGES.same("one pin", filled(Desk.pins(1), 0, 1, 0, 1, 0, 0), x -> x.load(0, 1, 0, 2), 0);
    }

    private static void loadWholeNumbers() {
        EDGES.says(27, "its items", "ints as they are");
        Desk desk = filled(Desk.pins(12), 0, 1, 256, 1, 0, 257, LEAST, 1, 1, MOST, -1, 1);
        EDGES.same("none of them", desk, x -> x.load(0, 1, 0, 5), 0);
        Desk bytes = filled(Desk.pins(12), 0, 0, 256, 1, 2, 257, LEAST, 3);
        EDGES.leaves("bytes", bytes, x -> x.load(0, 0, 0, 3), 3, bytes.then(x -> {
            x.bar(0, 1);
            x.bar(2, 1);
            x.bar(0, 3);
        }));
    }
}
