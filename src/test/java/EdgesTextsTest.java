/** Boundary cases of promises 1 to 4, sentence by sentence: a new object, and texts. */
public final class EdgesTextsTest {
    private static final int NONE = Edges.NONE, BAD = Edges.BAD, STATE = Edges.STATE, FULL = Edges.FULL;
    private static final int MISSING = Edges.MISSING, OUTSIDE = Edges.OUTSIDE;
    private static final int MOST = Edges.MOST, LEAST = Edges.LEAST;
    private static final String BLANKS = " ".repeat(30);

    private static final Edges EDGES = new Edges();
    private static final Desk FULL_DESK = Desk.full();
    /** Pins a, bo, cat, dune; bars a-cat, bo-dune. */
    private static final Desk FOUR = Desk.empty().then(x -> {
        for (String name : "a bo cat dune".split(" ")) {
            Checks.told(x, "pin " + name);
        }
        x.bar(0, 2);
        x.bar(3, 1);
    });

    public static void main(String[] args) {
        noPins();
        nothingMore();
        objectsApart();
        manyCalls();
        howManyBytes();
        whichBytes();
        othersToo();
        feedRefusedFirst();
        room();
        roomAgain();
        tapeIsEmptyThen();
        pinsNumbered();
        twelvePins();
        namesOfLetters();
        lettersAToZ();
        namesAreUnlike();
        noNames();
        blanks();
        noBlanks();
        wordsMeet();
        firstWords();
        endsTooEarly();
        longWords();
        wordsTooMany();
        namesNobodyHas();
        theFirstOnesAgain();
        bytesThatBeginNone();
        firstFault();
        barsOfTexts();
        barIsThere();
        barIsNotThere();
        twentyFourBars();
        fullIsLast();
        namedAllBytes();
        namedNobody();
        namedEmpties();
        EDGES.close();
    }

    private static void due(String call, int got, int want) {
        EDGES.due(call, got, want);
    }

    // ---- 1: a new object

    private static void noPins() {
        EDGES.says(1, "No PINS");
        Desk none = Desk.empty();
        for (int what = 0; what <= 8; what++) {
            int asked = what;
            EDGES.same("told(" + what + ")", none, x -> x.told(asked), 0);
        }
        EDGES.same("pin(0, 0)", none, x -> x.pin(0, 0), BAD);
        EDGES.same("pin(0, 10)", none, x -> x.pin(0, 10), BAD);
        EDGES.same("bar(0, 1)", none, x -> x.bar(0, 1), BAD);
        EDGES.same("off(0, 1)", none, x -> x.off(0, 1), BAD);
        EDGES.same("between(0, 1)", none, x -> x.between(0, 1), BAD);
        EDGES.same("tied(0, 1)", none, x -> x.tied(0, 1), BAD);
        EDGES.same("with(0, 1)", none, x -> x.with(0, 1), BAD);
    }

    private static void nothingMore() {
        EDGES.says(1, "No PINS .. missing (as all are at first)", "no BARS, no PARTS, THE TAPE empty, no IMAGE");
        Desk none = Desk.empty();
        EDGES.same("barAt(0, 0)", none, x -> x.barAt(0, 0), OUTSIDE);
        EDGES.same("part(0)", none, x -> x.part(0), OUTSIDE);
        EDGES.same("ring(0)", none, x -> x.ring(0), OUTSIDE);
        EDGES.same("without(0)", none, x -> x.without(0), OUTSIDE);
        EDGES.same("worst(0)", none, x -> x.worst(0), STATE);
        EDGES.same("worst(1)", none, x -> x.worst(1), STATE);
        EDGES.same("lacking(-1)", none, x -> x.lacking(NONE), 0);
        EDGES.same("lacking(0)", none, x -> x.lacking(0), OUTSIDE);
        EDGES.same("down(0, 0)", none, x -> x.down(0, 0), STATE);
        EDGES.same("line(-1)", none, x -> x.line(NONE), 0);
        EDGES.same("line(0)", none, x -> x.line(0), NONE);
        EDGES.same("text()", none, PebbleBars::text, -100);
        EDGES.same("named()", none, PebbleBars::named, NONE);
        EDGES.same("back()", none, PebbleBars::back, STATE);
        for (int sheet = 0; sheet < 4; sheet++) {
            int s = sheet;
            EDGES.same("put(" + s + ", 0, 0)", none, x -> x.put(s, 0, 0), MISSING);
            EDGES.same("tells(" + s + ", 0)", none, x -> x.tells(s, 0), MISSING);
            EDGES.same("copy(" + s + ", 0, " + s + ", 0, 0)", none, x -> x.copy(s, 0, s, 0, 0), MISSING);
            EDGES.same("load(" + s + ", 0, 0, 0)", none, x -> x.load(s, 0, 0, 0), MISSING);
            EDGES.same("load(" + s + ", 1, 0, 0)", none, x -> x.load(s, 1, 0, 0), MISSING);
        }
    }

    private static void objectsApart() {
        EDGES.says(1, "No PINS", "of one object, whatever was told to another");
        PebbleBars first = FULL_DESK.make();
        PebbleBars second = new PebbleBars();
        due("pins of the second", second.told(0), 0);
        due("its image", second.back(), STATE);
        due("its sheet", second.put(0, 0, 0), MISSING);
        Checks.told(second, "pin zz");
        due("pins of the first", first.told(0), 12);
        due("the name in the first", Checks.named(first, "zz"), NONE);
    }

    private static void manyCalls() {
        EDGES.says(1, "at most 512 calls after it has been made");
        PebbleBars x = Checks.withBars(2, "01");
        // Two pins of two calls each, a bar: five calls.
        for (int call = 6; call <= 512; call++) {
            due("call " + call, call % 2 == 0 ? x.off(1, 0) : x.bar(0, 1), 0);
        }
    }

    // ---- 2: feed

    private static void howManyBytes() {
        EDGES.says(2, "n bytes (1 .. 5");
        for (int n : new int[] {0, 6, -1, 7, 30, MOST, LEAST}) {
            EDGES.same("n " + n, FOUR.fed("ab"), x -> x.feed(n, 97, 97, 97, 97, 97), BAD);
        }
        for (int n = 1; n <= 5; n++) {
            due("n " + n, new PebbleBars().feed(n, 97, 97, 97, 97, 97), n);
        }
        for (int n = 1; n <= 4; n++) {
            PebbleBars x = FOUR.make();
            x.feed(n, 'd', 'u', 'n', 'e', 'x');
            due("those first, " + n, x.named(), n == 4 ? 3 : NONE);
        }
        PebbleBars x = FOUR.make();
        x.feed(5, 'p', 'i', 'n', ' ', 'u');
        due("all five", x.text(), 4);
        due("all five", Checks.named(x, "u"), 4);
    }

    private static int feedWith(PebbleBars x, int n, int at, int value) {
        int[] v = {97, 97, 97, 97, 97};
        v[at] = value;
        return x.feed(n, v[0], v[1], v[2], v[3], v[4]);
    }

    private static void whichBytes() {
        EDGES.says(2, "each 0 .. 255");
        for (int at = 0; at < 5; at++) {
            int place = at;
            for (int value : new int[] {0, 1, 127, 128, 254, 255}) {
                due("byte " + at + " is " + value, feedWith(new PebbleBars(), 5, at, value), 5);
            }
            for (int value : new int[] {-1, 256, -128, 512, MOST, LEAST}) {
                EDGES.same("byte " + at + " is " + value, FOUR.fed("ab"), x -> feedWith(x, 5, place, value), BAD);
            }
        }
    }

    private static void othersToo() {
        EDGES.says(2, "each 0 .. 255, the others, too");
        for (int n = 1; n < 5; n++) {
            int fed = n;
            for (int at = n; at < 5; at++) {
                int place = at;
                due("byte " + at + " of " + n + " is 0", feedWith(new PebbleBars(), n, at, 0), n);
                due("byte " + at + " of " + n + " is 255", feedWith(new PebbleBars(), n, at, 255), n);
                EDGES.same("byte " + at + " of " + n + " is -1", FOUR, x -> feedWith(x, fed, place, -1), BAD);
                EDGES.same("byte " + at + " of " + n + " is 256", FOUR, x -> feedWith(x, fed, place, 256), BAD);
            }
        }
    }

    private static void feedRefusedFirst() {
        EDGES.says(2, "BAD; FULL");
        Desk thirty = FOUR.fed(BLANKS);
        EDGES.same("a byte is none, no room", thirty, x -> x.feed(1, 256, 0, 0, 0, 0), BAD);
        EDGES.same("another byte is none, no room", thirty, x -> x.feed(1, 0, 0, 0, 0, -1), BAD);
        EDGES.same("n 6, no room", thirty, x -> x.feed(6, 0, 0, 0, 0, 0), BAD);
        EDGES.same("n 0, no room", thirty, x -> x.feed(0, 0, 0, 0, 0, 0), BAD);
        EDGES.same("n far out, no room", thirty, x -> x.feed(MOST, 0, 0, 0, 0, 0), BAD);
    }

    private static void room() {
        EDGES.says(2, "how many it has .. FULL: they have no room");
        for (int size = 24; size <= 30; size++) {
            Desk desk = FOUR.fed("bar a bo" + BLANKS.substring(0, size - 8));
            for (int n = 1; n <= 5; n++) {
                int fed = n;
                if (size + n <= 30) {
                    due(size + " and " + n, desk.make().feed(n, 32, 32, 32, 32, 32), size + n);
                } else {
                    EDGES.same(size + " and " + n, desk, x -> x.feed(fed, 33, 33, 33, 33, 33), FULL);
                }
            }
        }
    }

    private static void roomAgain() {
        EDGES.says(2, "FULL: they have no room", "but when THE TAPE was emptied");
        PebbleBars x = FOUR.fed(BLANKS).make();
        due("31st byte", x.feed(1, 'a', 0, 0, 0, 0), FULL);
        due("text()", x.text(), -130);
        due("the first byte again", x.feed(1, 'a', 0, 0, 0, 0), 1);
        Checks.feedAll(x, BLANKS.substring(1));
        due("30 bytes", x.told(8), 30);
        due("named()", x.named(), NONE);
        due("five bytes again", x.feed(5, 'd', 'u', 'n', 'e', 0), 5);
    }

    // ---- 3: text

    private static void tapeIsEmptyThen() {
        EDGES.says(3, "THE TAPE, which is empty then (by a FAULT, STATE, FULL, too)");
        String[] texts = {"pin x", "bar a bo", "off a cat", "pin", "bar a cat", "off a bo", "", BLANKS};
        int[] wants = {4, 2, 0, -103, STATE, STATE, -100, -130};
        for (int i = 0; i < texts.length; i++) {
            PebbleBars x = FOUR.fed(texts[i]).make();
            due("text '" + texts[i] + "'", x.text(), wants[i]);
            due("bytes then", x.told(8), 0);
            due("a second text", x.text(), -100);
        }
        PebbleBars x = FULL_DESK.fed("pin zz").make();
        due("a pin too many", x.text(), FULL);
        due("bytes then", x.told(8), 0);
        Checks.feedAll(x, "bar b l");
        due("a bar too many", x.text(), FULL);
        due("bytes then", x.told(8), 0);
    }

    private static void pinsNumbered() {
        EDGES.says(3, "the number of the PIN .. numbered from 0 as they come");
        PebbleBars x = new PebbleBars();
        for (int p = 0; p < 12; p++) {
            due("pins ahead of pin " + p, x.told(0), p);
            due("pin " + p, Checks.told(x, "pin " + (char) ('z' - p)), p);
            due("named", Checks.named(x, "" + (char) ('z' - p)), p);
        }
        due("pins", x.told(0), 12);
    }

    private static void twelvePins() {
        EDGES.says(3, "12 at most");
        due("the twelfth", Checks.told(Desk.pins(11).make(), "pin zz"), 11);
        EDGES.refusedText("pin zz", Desk.pins(12), FULL);
        EDGES.refusedText(" pin  zzzz ", FULL_DESK, FULL);
    }

    private static void namesOfLetters() {
        EDGES.says(3, "a NAME (1 to 4 letters");
        String[] names = {"x", "xy", "xyz", "xyzw"};
        PebbleBars x = FOUR.make();
        for (int i = 0; i < names.length; i++) {
            due("pin " + names[i], Checks.told(x, "pin " + names[i]), 4 + i);
            due("its letters", x.pin(4 + i, 3), i + 1);
        }
        EDGES.refusedText("pin ", FOUR, -104);
        EDGES.refusedText("pin xyzwv", FOUR, -104);
        EDGES.refusedText("pin xyzwvu", FOUR, -104);
        EDGES.refusedText("pin xxxxxxxxxxxxxxxxxxxxxxxxxx", FOUR, -104);
    }

    private static void lettersAToZ() {
        EDGES.says(3, "letters a .. z");
        PebbleBars x = new PebbleBars();
        due("pin az", Checks.told(x, "pin az"), 0);
        due("pin za", Checks.told(x, "pin za"), 1);
        due("pin zzzz", Checks.told(x, "pin zzzz"), 2);
        due("pin aaaa", Checks.told(x, "pin aaaa"), 3);
        for (int sign : new int[] {'a' - 1, 'z' + 1, 'A', 'Z', '0', '9', 0, 31, 33, 127, 128, 225, 250, 255}) {
            EDGES.refusedText("pin " + (char) sign, FOUR, -104);
            EDGES.refusedText("pin x" + (char) sign, FOUR, -105);
            EDGES.refusedText("pin x" + (char) sign + "y", FOUR, -105);
        }
    }

    private static void namesAreUnlike() {
        EDGES.says(3, "of pin a NAME that is had already");
        EDGES.refusedText("pin a", FOUR, -104);
        EDGES.refusedText("pin dune", FOUR, -104);
        EDGES.refusedText("  pin   bo  ", FOUR, -108);
        PebbleBars x = FOUR.make();
        String[] near = {"aa", "b", "o", "ob", "ca", "cats", "dun", "ddun", "nedu", "une"};
        for (int i = 0; i < 8; i++) {
            due("pin " + near[i], Checks.told(x, "pin " + near[i]), 4 + i);
        }
        EDGES.refusedText("pin a", Desk.pins(12), -104);
        EDGES.refusedText("pin l", Desk.pins(12), -104);
        x = Desk.pins(1).then(PebbleBars::image).then(y -> Checks.told(y, "pin b")).make();
        x.back();
        due("a name of a pin that is gone", Checks.told(x, "pin b"), 1);
    }

    private static void noNames() {
        EDGES.says(3, "pin, bar, off are no NAMES");
        for (String verb : new String[] {"pin", "bar", "off"}) {
            EDGES.refusedText("pin " + verb, FOUR, -104);
            EDGES.refusedText("bar " + verb + " a", FOUR, -104);
            EDGES.refusedText("off a " + verb, FOUR, -106);
        }
        PebbleBars x = new PebbleBars();
        String[] near = {"pi", "pins", "in", "ba", "bars", "arba", "of", "offs", "ff", "rab"};
        for (int i = 0; i < near.length; i++) {
            due("pin " + near[i], Checks.told(x, "pin " + near[i]), i);
        }
    }

    private static void blanks() {
        EDGES.says(3, "blanks (32) may stand ahead, between and behind");
        due("none but one", Checks.told(FOUR.make(), "pin x"), 4);
        due("ahead", Checks.told(FOUR.make(), BLANKS.substring(5) + "pin x"), 4);
        due("between", Checks.told(FOUR.make(), "pin" + BLANKS.substring(4) + "x"), 4);
        due("behind", Checks.told(FOUR.make(), "pin x" + BLANKS.substring(5)), 4);
        due("all over", Checks.told(FOUR.make(), "    bar     dune      cat     "), 2);
        due("all over", Checks.told(FOUR.make(), "  off  dune                 bo"), 1);
    }

    private static void noBlanks() {
        EDGES.says(3, "blanks (32)", "no other byte is one");
        for (int sign : new int[] {0, 9, 10, 13, 31, 33, 95, 127, 160, 255}) {
            EDGES.refusedText((char) sign + "pin x", FOUR, -100);
            EDGES.refusedText("pin" + (char) sign + "x", FOUR, -103);
            EDGES.refusedText("pin x" + (char) sign, FOUR, -105);
            EDGES.refusedText("bar a bo " + (char) sign, FOUR, -109);
        }
    }

    private static void wordsMeet() {
        EDGES.says(3, "where WORDS meet one at least");
        EDGES.refusedText("pinx", FOUR, -100);
        EDGES.refusedText("bara bo", FOUR, -100);
        EDGES.refusedText("bar abo", FOUR, -104);
        EDGES.refusedText("off acat", FOUR, -104);
    }

    private static void firstWords() {
        EDGES.says(3, "TEXT: pin NAME; or bar NAME NAME; or off NAME NAME");
        String[] wrong = {"p", "pi", "pon", "pim", "qin", "pinn", "ba", "bat", "car", "barb", "of", "ofg", "pff", "offf",
            "a", "dune", "nip", "bin", "PIN", "Pin"};
        for (String word : wrong) {
            EDGES.refusedText(word + " x", FOUR, -100);
            EDGES.refusedText("   " + word, FOUR, -103);
        }
    }

    private static void endsTooEarly() {
        EDGES.says(3, "-100 less its FAULT .. the size of the text, if it ends too early");
        String[] early = {"", " ", "pin", "pin ", "bar", "bar ", "off", "off  ", "bar a", "bar a ", "off dune", "off dune   ",
            "   pin", " bar  cat", BLANKS, "pin" + BLANKS.substring(3), "bar a" + BLANKS.substring(5),
            BLANKS.substring(3) + "off", BLANKS.substring(8) + "bar dune"};
        for (String text : early) {
            EDGES.refusedText(text, FOUR, -100 - text.length());
        }
    }

    private static void longWords() {
        EDGES.says(3, "a WORD of more than 4 letters");
        EDGES.refusedText("abcde", FOUR, -100);
        EDGES.refusedText("pinpi", FOUR, -100);
        EDGES.refusedText("p".repeat(30), FOUR, -100);
        EDGES.refusedText("pin abcde", FOUR, -104);
        EDGES.refusedText("bar dunes a", FOUR, -104);
        EDGES.refusedText("bar a dunes", FOUR, -106);
        EDGES.refusedText("off adune bo", FOUR, -104);
        EDGES.refusedText("off bo adune", FOUR, -107);
        due("four letters", Checks.told(FOUR.make(), "bar dune a"), 2);
    }

    private static void wordsTooMany() {
        EDGES.says(3, "a WORD too many");
        EDGES.refusedText("pin x y", FOUR, -106);
        EDGES.refusedText("pin x pin", FOUR, -106);
        EDGES.refusedText("pin x x", FOUR, -106);
        EDGES.refusedText("bar a bo cat", FOUR, -109);
        EDGES.refusedText("bar a bo   a", FOUR, -111);
        EDGES.refusedText("off a cat x", FOUR, -110);
        EDGES.refusedText("pin x" + BLANKS.substring(6) + "y", FOUR, -129);
        EDGES.refusedText("bar a bo" + BLANKS.substring(9) + "x", FOUR, -129);
    }

    private static void namesNobodyHas() {
        EDGES.says(3, "else one that no PIN has");
        for (String verb : new String[] {"bar ", "off "}) {
            EDGES.refusedText(verb + "x a", FOUR, -104);
            EDGES.refusedText(verb + "x", FOUR, -104);
            EDGES.refusedText(verb + "aa bo", FOUR, -104);
            EDGES.refusedText(verb + "b cat", FOUR, -104);
            EDGES.refusedText(verb + "a x", FOUR, -106);
            EDGES.refusedText(verb + "a dun", FOUR, -106);
            EDGES.refusedText(verb + "a ob", FOUR, -106);
            EDGES.refusedText(verb + "a b", Desk.empty(), -104);
            EDGES.refusedText(verb + "a b", Desk.pins(1), -106);
        }
    }

    private static void theFirstOnesAgain() {
        EDGES.says(3, "the second one the first one's again");
        for (String verb : new String[] {"bar ", "off "}) {
            EDGES.refusedText(verb + "a a", FOUR, -106);
            EDGES.refusedText(verb + "dune  dune", FOUR, -110);
            EDGES.refusedText(verb + "a a", Desk.pins(1), -106);
            EDGES.refusedText(verb + "a a a", FOUR, -106);
        }
    }

    private static void bytesThatBeginNone() {
        EDGES.says(3, "also of a byte that begins none");
        EDGES.refusedText("!", FOUR, -100);
        EDGES.refusedText("  !", FOUR, -102);
        EDGES.refusedText("pin!x", FOUR, -103);
        EDGES.refusedText("pin !x", FOUR, -104);
        EDGES.refusedText("pin x!", FOUR, -105);
        EDGES.refusedText("pin x !", FOUR, -106);
        EDGES.refusedText("bar!a bo", FOUR, -103);
        EDGES.refusedText("bar a!bo", FOUR, -105);
        EDGES.refusedText("bar a-bo", FOUR, -105);
        EDGES.refusedText("bar a bo!", FOUR, -108);
        EDGES.refusedText("off a cat!", FOUR, -109);
        EDGES.refusedText(BLANKS.substring(1) + "!", FOUR, -129);
        EDGES.refusedText("\u0000", FOUR, -100);
        EDGES.refusedText("\u00ff", FOUR, -100);
    }

    private static void firstFault() {
        EDGES.says(3, "the first WORD that can't stand there");
        EDGES.refusedText("put x !", FOUR, -100);
        EDGES.refusedText("put!", FOUR, -100);
        EDGES.refusedText("pin a b", FOUR, -104);
        EDGES.refusedText("pin a!", FOUR, -104);
        EDGES.refusedText("pin abcde!", FOUR, -104);
        EDGES.refusedText("bar x y z", FOUR, -104);
        EDGES.refusedText("bar x!", FOUR, -104);
        EDGES.refusedText("bar a a b", FOUR, -106);
        EDGES.refusedText("bar a x!", FOUR, -106);
        EDGES.refusedText("off a cat x !", FOUR, -110);
    }

    private static void barsOfTexts() {
        EDGES.says(3, "the PLACE of the BAR (of one that goes: which it had)");
        due("the first", Checks.told(Desk.pins(2).make(), "bar a b"), 0);
        due("the first, turned", Checks.told(Desk.pins(2).make(), "bar b a"), 0);
        PebbleBars x = FULL_DESK.make();
        due("the last goes", Checks.told(x, "off d f"), 23);
        due("the first goes", Checks.told(x, "off b a"), 0);
        due("the last of 22 goes", Checks.told(x, "off c e"), 21);
        due("comes again", Checks.told(x, "bar a b"), 21);
        due("the second is the first", x.between(0, 2), 0);
    }

    private static void barIsThere() {
        EDGES.says(3, "STATE: a BAR is there already");
        EDGES.refusedText("bar a cat", FOUR, STATE);
        EDGES.refusedText("bar cat a", FOUR, STATE);
        EDGES.refusedText(" bar  dune  bo ", FOUR, STATE);
    }

    private static void barIsNotThere() {
        EDGES.says(3, "STATE: a BAR .. is not there");
        EDGES.refusedText("off a bo", FOUR, STATE);
        EDGES.refusedText("off dune a", FOUR, STATE);
        EDGES.refusedText("off a b", Desk.pins(2), STATE);
        EDGES.refusedText("off b l", FULL_DESK, STATE);
    }

    private static void twentyFourBars() {
        EDGES.says(3, "BARS (24 at most)");
        due("the 24th", Checks.told(Desk.bars(12, Desk.FAN + " 13 24").make(), "bar d f"), 23);
        EDGES.refusedText("bar b l", FULL_DESK, FULL);
        EDGES.refusedText("bar l b", FULL_DESK, FULL);
    }

    private static void fullIsLast() {
        EDGES.says(3, "FULL (the last of these)");
        EDGES.refusedText("pin a", FULL_DESK, -104);
        EDGES.refusedText("pin zz y", FULL_DESK, -107);
        EDGES.refusedText("pin zz!", FULL_DESK, -106);
        EDGES.refusedText("pin zzzzz", FULL_DESK, -104);
        EDGES.refusedText("pin off", FULL_DESK, -104);
        EDGES.refusedText("bar b l l", FULL_DESK, -108);
        EDGES.refusedText("bar b b", FULL_DESK, -106);
        EDGES.refusedText("bar k l", FULL_DESK, STATE);
        EDGES.refusedText("bar l k", FULL_DESK, STATE);
        EDGES.refusedText("bar k l a", FULL_DESK, -108);
        EDGES.refusedText("off b l a", FULL_DESK, -108);
    }

    // ---- 4: named

    private static void namedAllBytes() {
        EDGES.says(4, "is a NAME, all its bytes: whose");
        String[] names = {"a", "bo", "cat", "dune"};
        for (int p = 0; p < names.length; p++) {
            int who = p;
            EDGES.leaves("'" + names[p] + "'", FOUR.fed(names[p]), PebbleBars::named, who, FOUR);
        }
        Desk twelve = Desk.pins(12);
        EDGES.leaves("'l', the last of twelve", twelve.fed("l"), PebbleBars::named, 11, twelve);
    }

    private static void namedNobody() {
        EDGES.says(4, "NONE");
        String[] none = {"", " ", " a", "a ", "a a", "b", "o", "boo", "ob", "dun", "dunes", "dunea", "adune", "A", "a!", "!a",
            "\u0000", "a\u0000", "\u0000a", "\u00ff\u00ff\u00ff\u00ff", "pin", "bar", "off", "pin a", BLANKS,
            "a" + BLANKS.substring(1), "a".repeat(30)};
        for (String name : none) {
            EDGES.leaves("'" + name + "'", FOUR.fed(name), PebbleBars::named, NONE, FOUR);
        }
        Desk empty = Desk.empty();
        EDGES.leaves("no pins", empty.fed("a"), PebbleBars::named, NONE, empty);
    }

    private static void namedEmpties() {
        EDGES.says(4, "THE TAPE, which is empty then (by NONE, too)");
        PebbleBars x = FOUR.fed("cat").make();
        due("cat", x.named(), 2);
        due("bytes then", x.told(8), 0);
        due("again", x.named(), NONE);
        x.feed(3, 'c', 'a', 'r', 0, 0);
        due("car", x.named(), NONE);
        due("bytes then", x.told(8), 0);
    }
}
