/** Promise by promise: ordinary inputs, the edges that the document names, wrong inputs. */
public final class PromisesTest {
    private static final int NONE = -1, BAD = -2, STATE = -3, FULL = -4;
    private static final int MISSING = -11, OUTSIDE = -12, OTHER_SORT = -13, BELOW_ZERO = -14;
    private static final int MOST = Integer.MAX_VALUE, LEAST = Integer.MIN_VALUE;

    private static final String TETRA = "01 02 12 23 03 13";
    private static final String BIPARTITE = "03 04 05 13 14 15 23 24 25";
    /** Twelve pins, 21 bars: a stiff fan without extra ones. */
    private static final String FAN = "01 02 12 03 23 04 34 05 45 06 56 07 67 08 78 09 89 0a 9a 0b ab";

    private static final Checks CHECKS = new Checks();

    private static void due(String call, int got, int want) {
        CHECKS.due(call, got, want);
    }

    private static void dueLine(String where, PebbleBars x, String want) {
        String got = Checks.line(x);
        due(where + ": line is '" + got + "', not '" + want + "'", got.equals(want) ? 1 : 0, 1);
        due(where + ": line's size", x.line(NONE), want.length());
    }

    public static void main(String[] args) {
        newObject();
        feed();
        textOfPins();
        textOfBars();
        textFaults();
        textRefusals();
        named();
        bar();
        off();
        told();
        barAt();
        pin();
        between();
        tied();
        part();
        ring();
        worst();
        without();
        with();
        lacking();
        down();
        downRefusals();
        line();
        tells();
        tellsLastOnes();
        film();
        imageAndBack();
        sheet();
        put();
        copy();
        load();
        loadRefusals();
        CHECKS.close();
    }

    private static void newObject() {
        PebbleBars x = new PebbleBars();
        int[] wants = {0, 0, 0, 0, 0, 0, 0, 0, 0};
        for (int what = 0; what < wants.length; what++) {
            due("1: told(" + what + ")", x.told(what), wants[what]);
        }
        due("1: back()", x.back(), STATE);
        for (int sheet = 0; sheet < 4; sheet++) {
            due("1: put", x.put(sheet, 0, 0), MISSING);
        }
        due("1: pin(0, 0)", x.pin(0, 0), BAD);
        due("1: line(-1)", x.line(-1), 0);
        due("1: named()", x.named(), NONE);
    }

    private static void feed() {
        PebbleBars x = new PebbleBars();
        due("2: none", x.feed(0, 1, 1, 1, 1, 1), BAD);
        due("2: six", x.feed(6, 1, 1, 1, 1, 1), BAD);
        due("2: below", x.feed(LEAST, 1, 1, 1, 1, 1), BAD);
        for (int at = 0; at < 5; at++) {
            for (int wrong : new int[] {-1, 256, MOST, LEAST}) {
                int[] v = {97, 97, 97, 97, 97};
                v[at] = wrong;
                due("2: byte " + at + " is " + wrong, x.feed(1, v[0], v[1], v[2], v[3], v[4]), BAD);
            }
        }
        due("2: nothing came", x.told(8), 0);
        due("2: one", x.feed(1, 0, 255, 0, 255, 0), 1);
        for (int i = 1; i <= 5; i++) {
            due("2: five more", x.feed(5, 255, 0, 255, 0, 255), 1 + 5 * i);
        }
        due("2: no room for five", x.feed(5, 1, 1, 1, 1, 1), FULL);
        due("2: BAD ahead of FULL", x.feed(5, 1, 1, 1, 1, 256), BAD);
        due("2: as it was", x.told(8), 26);
        due("2: room for four", x.feed(4, 1, 1, 1, 1, 1), 30);
        due("2: no room for one", x.feed(1, 1, 1, 1, 1, 1), FULL);
        due("2: still 30", x.told(8), 30);
        due("2: the first byte begins no word", x.text(), -100);
        due("2: empty", x.told(8), 0);
        x.feed(3, 'p', 'i', 'n', 'x', 'y');
        x.feed(4, ' ', 'a', 'b', 'c', 'z');
        due("2: the bytes in their order", x.text(), 0);
        due("2: just those fed", Checks.named(x, "abc"), 0);
    }

    private static void textOfPins() {
        PebbleBars x = new PebbleBars();
        due("3: pin", Checks.told(x, "pin a"), 0);
        due("3: blanks", Checks.told(x, "   pin    zzzz   "), 1);
        due("3: a part of a name had", Checks.told(x, "pin zzz"), 2);
        due("3: a name in another order", Checks.told(x, "pin azz"), 3);
        due("3: pins is a name", Checks.told(x, "pin pins"), 4);
        due("3: ba is a name", Checks.told(x, "pin ba"), 5);
        due("3: tape is empty", x.told(8), 0);
        due("3: pins", x.told(0), 6);
        for (int i = 6; i < 12; i++) {
            due("3: pin " + i, Checks.told(x, "pin " + (char) ('a' + i)), i);
        }
        due("3: a thirteenth", Checks.told(x, "pin y"), FULL);
        due("3: tape is empty by FULL", x.told(8), 0);
        due("3: FAULT ahead of FULL, name had", Checks.told(x, "pin a"), -104);
        due("3: FAULT ahead of FULL, word too many", Checks.told(x, "pin y y"), -106);
        due("3: pins still", x.told(0), 12);
    }

    private static void textOfBars() {
        PebbleBars x = new PebbleBars();
        Checks.told(x, "pin a");
        Checks.told(x, "pin bo");
        Checks.told(x, "pin cat");
        Checks.told(x, "pin dune");
        due("3: bar", Checks.told(x, "bar dune a"), 0);
        due("3: bar", Checks.told(x, "  bar  bo   cat "), 1);
        due("3: bar", Checks.told(x, "bar a cat"), 2);
        due("3: bar there", Checks.told(x, "bar cat bo"), STATE);
        due("3: tape is empty by STATE", x.told(8), 0);
        due("3: off not there", Checks.told(x, "off a bo"), STATE);
        due("3: off", Checks.told(x, "off cat bo"), 1);
        due("3: those behind moved up", x.between(0, 2), 1);
        due("3: bar again is the last", Checks.told(x, "bar bo cat"), 2);
        due("3: off the first", Checks.told(x, "off a dune"), 0);
        due("3: bars", x.told(1), 2);
    }

    private static void textFaults() {
        PebbleBars x = new PebbleBars();
        Checks.told(x, "pin a");
        Checks.told(x, "pin bo");
        Checks.told(x, "pin cat");
        Object[][] faults = {
            {"", 0}, {"   ", 3}, {"pin", 3}, {"pin ", 4}, {"bar", 3}, {"bar a", 5}, {"bar a ", 6}, {"off", 3},
            {"off a  ", 7}, {"pins a", 0}, {"pi a", 0}, {"put a bo", 0}, {"  put", 2}, {"a", 0}, {"abcdefgh", 0},
            {"PIN x", 0}, {"pIn x", 0}, {"!pin x", 0}, {" !", 1}, {"pin!", 3}, {"pin x!", 5}, {"pin x !", 6},
            {"pin x!y", 5}, {"pin a", 4}, {"pin bo", 4}, {"pin pin", 4}, {"pin bar", 4}, {"pin off", 4},
            {"pin abcde", 4}, {"pin  abcdefghij", 5}, {"pin a b", 4}, {"pin x y", 6}, {"pin x   yy", 8},
            {"pin X", 4}, {"pin xY", 5}, {"pin 7", 4}, {"pin x7", 5}, {"pin\tx", 3}, {"pin x\n", 5},
            {"bar zz a", 4}, {"bar a zz", 6}, {"bar a a", 6}, {"bar  bo  bo", 9}, {"bar pin a", 4}, {"bar a bar", 6},
            {"bar a bo cat", 9}, {"bar a bo!", 8}, {"bar a! bo", 5}, {"bar a bob", 6}, {"bar abo", 4},
            {"bar a catty", 6}, {"bar ab bo", 4}, {"off a a", 6}, {"off a zz", 6}, {"off zz a", 4}, {"off a bo x", 9},
            {"barabo", 0}, {"bar a bo \u0000", 9}, {"bar a bo\u00ff", 8}, {"bar a ca\u00e9", 6}, {"pin x{", 5},
            {"pin `", 4}, {"pin x                        y", 29},
        };
        for (Object[] fault : faults) {
            String text = (String) fault[0];
            due("3: text '" + text + "'", Checks.told(x, text), -100 - (Integer) fault[1]);
            due("3: tape is empty by a FAULT", x.told(8), 0);
        }
        due("3: a FAULT changes no pins", x.told(0), 3);
        due("3: a FAULT changes no bars", x.told(1), 0);
        due("3: 30 bytes", Checks.told(x, "bar a                       bo"), 0);
    }

    private static void textRefusals() {
        PebbleBars x = Checks.withBars(12, FAN + " 13 24 35");
        due("3: 24 bars", x.told(1), 24);
        due("3: bar FULL", Checks.told(x, "bar k l"), STATE);
        due("3: bar FULL", Checks.told(x, "bar b l"), FULL);
        due("3: tape is empty by FULL", x.told(8), 0);
        due("3: FAULT ahead of STATE", Checks.told(x, "bar k l a"), -108);
        due("3: FAULT ahead of STATE", Checks.told(x, "off b l!"), -107);
        due("3: FAULT ahead of FULL", Checks.told(x, "bar b l l"), -108);
        due("3: off", Checks.told(x, "off k l"), 20);
        due("3: bar", Checks.told(x, "bar b l"), 23);
    }

    private static void named() {
        PebbleBars x = new PebbleBars();
        Checks.told(x, "pin bo");
        Checks.told(x, "pin boat");
        Checks.told(x, "pin b");
        due("4: bo", Checks.named(x, "bo"), 0);
        due("4: boat", Checks.named(x, "boat"), 1);
        due("4: b", Checks.named(x, "b"), 2);
        due("4: empty then", x.told(8), 0);
        String[] none = {"", "o", "boa", "boats", "bob", "ob", " bo", "bo ", "bo b", "Bo", "pin", "bar", "off", "b!", "!",
            "b\u0000"};
        for (String name : none) {
            due("4: '" + name + "'", Checks.named(x, name), NONE);
            due("4: empty by NONE, too", x.told(8), 0);
        }
    }

    private static void bar() {
        PebbleBars x = Checks.withPins(4);
        due("5: first", x.bar(2, 1), 0);
        due("5: second", x.bar(0, 3), 1);
        due("5: there", x.bar(2, 1), STATE);
        due("5: there, turned", x.bar(1, 2), STATE);
        int[][] bad = {{0, 0}, {1, 1}, {4, 0}, {0, 4}, {-1, 0}, {0, -1}, {MOST, 0}, {LEAST, 1}, {1, LEAST}, {-1, -1}};
        for (int[] pair : bad) {
            due("5: bar(" + pair[0] + ", " + pair[1] + ")", x.bar(pair[0], pair[1]), BAD);
        }
        due("5: two bars", x.told(1), 2);
        x = Checks.withBars(12, FAN + " 13 24");
        due("5: the last place", x.bar(11, 1), 23);
        due("5: FULL", x.bar(11, 2), FULL);
        due("5: STATE ahead of FULL", x.bar(1, 0), STATE);
        due("5: BAD ahead of FULL", x.bar(1, 1), BAD);
        due("5: bars", x.told(1), 24);
    }

    private static void off() {
        PebbleBars x = Checks.withBars(4, TETRA);
        due("6: third", x.off(2, 1), 2);
        due("6: those behind move up", x.between(2, 3), 2);
        due("6: last", x.off(1, 3), 4);
        due("6: first", x.off(0, 1), 0);
        due("6: gone", x.off(0, 1), STATE);
        due("6: same", x.off(2, 2), BAD);
        due("6: no pin", x.off(4, 0), BAD);
        due("6: no pin", x.off(0, 4), BAD);
        due("6: no pin", x.off(-1, 0), BAD);
        due("6: no pin", x.off(0, LEAST), BAD);
        dueLine("6", x, "a-c c-d a-d");
        due("6: comes again", x.bar(0, 1), 3);
        dueLine("6", x, "a-c c-d a-d a-b");
    }

    private static void dueTold(String where, PebbleBars x, int... wants) {
        for (int what = 0; what < wants.length; what++) {
            due("7: " + where + ": told(" + what + ")", x.told(what), wants[what]);
        }
    }

    private static void told() {
        dueTold("one pin", Checks.withPins(1), 1, 0, 0, 2, 0, 0, 0, 0, 0);
        dueTold("two pins", Checks.withPins(2), 2, 0, 0, 4, 0, 0, 0, 0, 0);
        dueTold("a bar", Checks.withBars(2, "01"), 2, 1, 1, 3, 1, 0, 1, 0, 0);
        dueTold("a bar, a pin", Checks.withBars(3, "01"), 3, 1, 1, 5, 0, 0, 1, 0, 0);
        dueTold("a triangle", Checks.withBars(3, "01 12 02"), 3, 3, 3, 3, 1, 0, 1, 0, 0);
        dueTold("a square", Checks.withBars(4, "01 12 23 03"), 4, 4, 4, 4, 0, 0, 4, 0, 0);
        dueTold("four, all", Checks.withBars(4, TETRA), 4, 6, 5, 3, 1, 1, 1, 6, 0);
        dueTold("four, all, and a tail", Checks.withBars(5, TETRA + " 34"), 5, 7, 6, 4, 0, 1, 2, 6, 0);
        dueTold("three and three", Checks.withBars(6, BIPARTITE), 6, 9, 9, 3, 1, 0, 1, 0, 0);
        dueTold("three and three and one", Checks.withBars(6, BIPARTITE + " 01"), 6, 10, 9, 3, 1, 1, 1, 10, 0);
        // Two fours at a hinge: two parts, one extra bar in each, and a freedom more.
        dueTold("a hinge", Checks.withBars(7, TETRA + " 34 35 36 45 46 56"), 7, 12, 10, 4, 0, 2, 2, 12, 0);
        PebbleBars x = Checks.withBars(12, FAN);
        x.feed(4, 1, 2, 3, 4, 5);
        dueTold("a fan", x, 12, 21, 21, 3, 1, 0, 1, 0, 4);
        due("7: told(9)", x.told(9), BAD);
        due("7: told(-1)", x.told(-1), BAD);
        due("7: told(most)", x.told(MOST), BAD);
        due("7: told(least)", x.told(LEAST), BAD);
    }

    private static void barAt() {
        PebbleBars x = Checks.withPins(5);
        x.bar(4, 3);
        for (String pair : TETRA.split(" ")) {
            x.bar(pair.charAt(1) - '0', pair.charAt(0) - '0');
        }
        int[][] wants = {{3, 4, 1, 0}, {0, 1, 1, 1}, {0, 2, 1, 1}, {1, 2, 1, 1}, {2, 3, 1, 1}, {0, 3, 1, 1}, {1, 3, 0, 1}};
        for (int place = 0; place < wants.length; place++) {
            for (int what = 0; what < 4; what++) {
                due("8: barAt(" + place + ", " + what + ")", x.barAt(place, what), wants[place][what]);
            }
        }
        due("8: what", x.barAt(0, 4), BAD);
        due("8: what", x.barAt(0, -1), BAD);
        due("8: what ahead of place", x.barAt(7, 4), BAD);
        due("8: place", x.barAt(7, 0), OUTSIDE);
        due("8: place", x.barAt(-1, 3), OUTSIDE);
        due("8: place", x.barAt(MOST, 2), OUTSIDE);
        due("8: place", x.barAt(LEAST, 1), OUTSIDE);
        due("8: no bars", Checks.withPins(2).barAt(0, 0), OUTSIDE);
    }

    private static void pin() {
        PebbleBars x = Checks.withBars(5, TETRA + " 34");
        Checks.told(x, "pin wxyz");
        Checks.told(x, "pin xy");
        due("9: bars of 3", x.pin(3, 0), 4);
        due("9: pins of 3", x.pin(3, 1), 1 + 2 + 4 + 16);
        due("9: parts of 3", x.pin(3, 2), 2);
        due("9: bars of 4", x.pin(4, 0), 1);
        due("9: pins of 4", x.pin(4, 1), 8);
        due("9: parts of 4", x.pin(4, 2), 1);
        due("9: parts of 0", x.pin(0, 2), 1);
        due("9: bars of 5", x.pin(5, 0), 0);
        due("9: pins of 5", x.pin(5, 1), 0);
        due("9: parts of 5", x.pin(5, 2), 0);
        int[] lengths = {1, 1, 1, 1, 1, 4, 2};
        String[] names = {"a", "b", "c", "d", "e", "wxyz", "xy"};
        for (int p = 0; p < names.length; p++) {
            due("9: letters of " + p, x.pin(p, 3), lengths[p]);
            for (int i = 0; i < 4; i++) {
                int want = i < names[p].length() ? names[p].charAt(i) : NONE;
                due("9: letter " + i + " of " + p, x.pin(p, 10 + i), want);
            }
        }
        for (int what : new int[] {-1, 4, 5, 9, 14, MOST, LEAST}) {
            due("9: what " + what, x.pin(0, what), BAD);
        }
        for (int p : new int[] {-1, 7, 12, MOST, LEAST}) {
            due("9: pin " + p, x.pin(p, 0), BAD);
            due("9: pin " + p, x.pin(p, 10), BAD);
        }
    }

    private static void between() {
        PebbleBars x = Checks.withBars(4, "23 01 12");
        due("10: 2, 3", x.between(2, 3), 0);
        due("10: 3, 2", x.between(3, 2), 0);
        due("10: 2, 1", x.between(2, 1), 2);
        due("10: none", x.between(0, 3), NONE);
        due("10: same", x.between(3, 3), BAD);
        due("10: no pin", x.between(0, 4), BAD);
        due("10: no pin", x.between(-1, 0), BAD);
        due("10: no pin", x.between(MOST, 0), BAD);
    }

    private static void tied() {
        PebbleBars x = Checks.withBars(5, "01 12 23 03");
        due("11: a bar", x.tied(1, 0), 1);
        due("11: across a square", x.tied(0, 2), 0);
        due("11: far", x.tied(0, 4), 0);
        x.bar(0, 2);
        due("11: across a stiff square", x.tied(3, 1), 1);
        x.bar(1, 3);
        due("11: an extra bar", x.tied(3, 1), 1);
        due("11: changes nothing", x.told(1), 6);
        due("11: same", x.tied(1, 1), BAD);
        due("11: no pin", x.tied(5, 1), BAD);
        due("11: no pin", x.tied(1, -1), BAD);
        x = Checks.withBars(12, FAN + " 13 24 35");
        due("11: 24 bars", x.tied(1, 11), 1);
    }

    private static void part() {
        PebbleBars x = Checks.withBars(8, "67 56 34 24 23 01 12 02");
        due("12: first", x.part(0), 7);
        due("12: second", x.part(1), 4 + 8 + 16);
        due("12: third", x.part(2), 32 + 64);
        due("12: fourth", x.part(3), 64 + 128);
        due("12: outside", x.part(4), OUTSIDE);
        due("12: outside", x.part(-1), OUTSIDE);
        due("12: outside", x.part(MOST), OUTSIDE);
        due("12: outside", x.part(LEAST), OUTSIDE);
        x = Checks.withBars(6, "05 04 03 02 01");
        for (int i = 0; i < 5; i++) {
            due("12: by the second least", x.part(i), 1 + (2 << i));
        }
        // No triangle is in it, and yet it is one part.
        due("12: three and three", Checks.withBars(6, BIPARTITE).part(0), 63);
        x = Checks.withBars(12, "01 12 23 34 45 56 67 78 89 9a ab 0b");
        due("12: a ring's parts", x.told(6), 12);
        due("12: a ring's first", x.part(0), 3);
        due("12: a ring's second", x.part(1), 1 + 2048);
        due("12: a ring's last", x.part(11), 1024 + 2048);
        due("12: no pins", new PebbleBars().part(0), OUTSIDE);
    }

    private static void ring() {
        PebbleBars x = Checks.withBars(6, "45 01 02 12 23 03 13 04 34");
        due("13: it carries", x.ring(0), STATE);
        due("13: of four", x.ring(6), 2 + 4 + 8 + 16 + 32 + 64);
        due("13: it carries", x.ring(8), STATE);
        x.bar(1, 4);
        due("13: another one, by those that carry alone", x.ring(9),
                (2 + 4 + 8 + 16 + 32) + 128 + 256 + 512);
        x.bar(2, 4);
        due("13: not those behind it", x.ring(6), 2 + 4 + 8 + 16 + 32 + 64);
        due("13: a smaller one", x.ring(10), 4 + 16 + 32 + 128 + 256 + 1024);
        due("13: outside", x.ring(11), OUTSIDE);
        due("13: outside", x.ring(-1), OUTSIDE);
        due("13: outside", x.ring(LEAST), OUTSIDE);
        due("13: changes nothing", x.told(1), 11);
    }

    private static void worst() {
        due("14: no pins", new PebbleBars().worst(0), STATE);
        due("14: one pin", Checks.withPins(1).worst(1), STATE);
        due("14: BAD ahead of STATE", new PebbleBars().worst(2), BAD);
        PebbleBars x = Checks.withPins(3);
        due("14: no bars", x.worst(0), 999);
        due("14: no bars", x.worst(1), 3);
        due("14: what", x.worst(2), BAD);
        due("14: what", x.worst(-1), BAD);
        x = Checks.withBars(3, "12");
        due("14: a bar", x.worst(0), 1000);
        due("14: a bar", x.worst(1), 6);
        x = Checks.withBars(4, "23 01");
        due("14: the least as bits", x.worst(1), 3);
        x = Checks.withBars(3, "01 02 12");
        due("14: the fewest pins", x.worst(0), 1000);
        due("14: the fewest pins", x.worst(1), 3);
        x = Checks.withBars(8, "45 46 47 56 57 67 " + TETRA);
        due("14: of two fours", x.worst(0), 1001);
        due("14: of two fours", x.worst(1), 15);
        x.off(0, 1);
        due("14: the second four", x.worst(1), 240);
        x = Checks.withBars(7, "01 02 03 04 05 12 13 14 15 23 24 25 34 35 45 06 16 26");
        due("14: all of seven", x.worst(0), 1007);
        due("14: all of seven", x.worst(1), 127);
        x.off(2, 6);
        due("14: the fewest", x.worst(0), 1006);
        due("14: the fewest", x.worst(1), 63);
        x = Checks.withBars(12, "01 02 12 8a 8b ab 98 9a 9b");
        due("14: the last of twelve", x.worst(0), 1001);
        due("14: the last of twelve", x.worst(1), 0xf00);
        x = Checks.withBars(12, FAN + " 1b 2b 3b");
        due("14: all of twelve", x.worst(0), 1003);
        due("14: all of twelve", x.worst(1), 4095);
    }

    private static void without() {
        PebbleBars x = Checks.withBars(5, TETRA + " 34");
        for (int place = 0; place < 6; place++) {
            due("15: over-tied " + place, x.without(place), 4);
        }
        due("15: the tail", x.without(6), 5);
        due("15: outside", x.without(7), OUTSIDE);
        due("15: outside", x.without(-1), OUTSIDE);
        due("15: outside", x.without(MOST), OUTSIDE);
        due("15: changes nothing", x.told(1), 7);
        due("15: a single bar", Checks.withBars(2, "01").without(0), 4);
    }

    private static void with() {
        PebbleBars x = Checks.withBars(5, "01 12 23 03");
        due("16: as it is", x.with(1, 0), 6);
        due("16: more", x.with(0, 2), 5);
        due("16: more", x.with(4, 0), 5);
        due("16: changes nothing", x.told(3), 6);
        x.bar(0, 2);
        due("16: an extra one", x.with(1, 3), 5);
        due("16: same", x.with(1, 1), BAD);
        due("16: no pin", x.with(1, 5), BAD);
        due("16: no pin", x.with(-1, 1), BAD);
        x = Checks.withBars(12, FAN.substring(0, FAN.length() - 6) + " 13 24 35 46 57");
        due("16: 24 bars, a freedom more", x.told(1) * 100 + x.told(3), 2405);
        due("16: a bar beyond 24", x.with(11, 0), 4);
    }

    private static void dueLacking(String where, PebbleBars x, int... wants) {
        due("17: " + where + ": how many", x.lacking(NONE), wants.length);
        for (int i = 0; i < wants.length; i++) {
            due("17: " + where + ": lacking(" + i + ")", x.lacking(i), wants[i]);
        }
        due("17: " + where + ": outside", x.lacking(wants.length), OUTSIDE);
        due("17: " + where + ": outside", x.lacking(-2), OUTSIDE);
        due("17: " + where + ": outside", x.lacking(MOST), OUTSIDE);
        due("17: " + where + ": outside", x.lacking(LEAST), OUTSIDE);
    }

    private static void lacking() {
        dueLacking("no pins", new PebbleBars());
        dueLacking("one pin", Checks.withPins(1));
        dueLacking("two pins", Checks.withPins(2), 1);
        dueLacking("four pins", Checks.withPins(4), 1, 2, 3, 102, 103);
        dueLacking("a square", Checks.withBars(4, "01 12 23 03"), 2);
        dueLacking("stiff", Checks.withBars(4, TETRA));
        dueLacking("twelve", Checks.withBars(12, FAN.substring(0, FAN.length() - 12)), 10, 11, 110, 111);
        PebbleBars x = Checks.withBars(5, TETRA);
        dueLacking("a pin off", x, 4, 104);
        due("17: in thought", x.told(1), 6);
    }

    private static void dueDown(String where, PebbleBars x, int[][] wants) {
        for (int i = 0; i < wants.length; i++) {
            for (int what = 0; what < 3; what++) {
                due("18: " + where + ": down(" + i + ", " + what + ")", x.down(i, what), wants[i][what]);
            }
        }
        due("18: " + where + ": outside", x.down(wants.length, 0), OUTSIDE);
        due("18: " + where + ": outside", x.down(-1, 2), OUTSIDE);
    }

    private static void down() {
        dueDown("a bar", Checks.withBars(2, "01"), new int[][] {});
        dueDown("a triangle", Checks.withBars(3, "12 02 01"), new int[][] {{0, 2, NONE}});
        dueDown("three and three", Checks.withBars(6, BIPARTITE),
                new int[][] {{0, 3, 304}, {5, 2, NONE}, {1, 2, NONE}, {2, 2, NONE}});
        // Two triangles with three bars across.
        dueDown("a prism", Checks.withBars(6, "01 02 12 34 35 45 03 14 25"),
                new int[][] {{0, 3, 103}, {2, 2, NONE}, {1, 2, NONE}, {3, 2, NONE}});
        // The first pair of 0's neighbours is 1, 2; a bar there would be extra in the stiff part 1, 2, 4, 5.
        dueDown("the first pair would be extra", Checks.withBars(8, "01 02 14 15 24 25 45 36 37 67 03 46 57"),
                new int[][] {{0, 3, 103}, {2, 2, NONE}, {1, 3, 304}, {5, 2, NONE}, {4, 2, NONE}, {3, 2, NONE}});
        dueDown("the same, the first pin in the stiff part", Checks.withBars(8, "12 13 02 24 03 34 04 56 57 67 15 06 47"),
                new int[][] {{1, 3, 205}, {3, 2, NONE}, {0, 3, 206}, {4, 2, NONE}, {2, 2, NONE}, {5, 2, NONE}});
        PebbleBars x = Checks.withBars(12, FAN);
        int[][] fan = new int[10][];
        for (int i = 0; i < 10; i++) {
            fan[i] = new int[] {i == 9 ? 0 : i + 1, 2, NONE};
        }
        dueDown("a fan", x, fan);
        due("18: in thought", x.told(1) * 100 + x.told(0), 2112);
    }

    private static void downRefusals() {
        due("18: no pins", new PebbleBars().down(0, 0), STATE);
        due("18: one pin", Checks.withPins(1).down(0, 0), STATE);
        due("18: BAD ahead of STATE", new PebbleBars().down(0, 3), BAD);
        due("18: BAD ahead of STATE", new PebbleBars().down(0, -1), BAD);
        due("18: loose", Checks.withBars(4, "01 12 23 03").down(0, 0), STATE);
        due("18: STATE ahead of -12", Checks.withBars(4, "01 12 23 03").down(9, 0), STATE);
        due("18: extra", Checks.withBars(4, TETRA).down(0, 0), STATE);
        due("18: outside", Checks.withBars(2, "01").down(0, 0), OUTSIDE);
        due("18: outside", Checks.withBars(3, "12 02 01").down(MOST, 0), OUTSIDE);
        due("18: outside", Checks.withBars(3, "12 02 01").down(LEAST, 0), OUTSIDE);
    }

    private static void line() {
        PebbleBars x = new PebbleBars();
        dueLine("19: no pins", x, "");
        due("19: none", x.line(0), NONE);
        for (String name : new String[] {"a", "bo", "cat", "dune"}) {
            Checks.told(x, "pin " + name);
        }
        dueLine("19: no bars", x, "");
        x.bar(3, 1);
        dueLine("19: a bar", x, "bo-dune");
        x.bar(0, 2);
        x.bar(3, 2);
        dueLine("19: three", x, "bo-dune a-cat cat-dune");
        due("19: behind", x.line(22), NONE);
        due("19: far behind", x.line(MOST), NONE);
        due("19: below", x.line(-2), NONE);
        due("19: far below", x.line(LEAST), NONE);
        x.off(0, 2);
        dueLine("19: two", x, "bo-dune cat-dune");
    }

    private static void fill(PebbleBars x, int sheet, int sort, int... items) {
        x.sheet(sheet, sort, items.length);
        for (int i = 0; i < items.length; i++) {
            x.put(sheet, i, items[i]);
        }
    }

    private static void tells() {
        PebbleBars x = Checks.withBars(4, TETRA);
        due("20: missing", x.tells(0, 0), MISSING);
        due("20: no sheet", x.tells(4, 0), BAD);
        due("20: no sheet", x.tells(-1, 0), BAD);
        due("20: what ahead of -11", x.tells(0, 2), BAD);
        due("20: what", x.tells(0, -1), BAD);
        for (int sort = 0; sort < 2; sort++) {
            fill(x, 3, sort, 1, 1, 1, 1, 1, 0);
            due("20: all so", x.tells(3, 0), NONE);
            x.put(3, 5, 7);
            due("20: any other number", x.tells(3, 0), NONE);
            x.put(3, 5, -1);
            due("20: any other number", x.tells(3, 0), NONE);
            x.put(3, 5, 1);
            due("20: the last is otherwise", x.tells(3, 0), 5);
            x.put(3, 2, 2);
            due("20: the third is otherwise", x.tells(3, 0), 2);
            fill(x, 3, sort, 1, 1, 1, 1, 1, 0, 0);
            due("20: told, but not there", x.tells(3, 0), 6);
            fill(x, 3, sort, 1, 1, 1, 1, 1);
            due("20: too few", x.tells(3, 0), 5);
            fill(x, 3, sort);
            due("20: none at all", x.tells(3, 0), 0);
            x.sheet(3, sort, 24);
            due("20: 24", x.tells(3, 0), 0);
            x.sheet(3, sort, 25);
            due("20: 25", x.tells(3, 0), BAD);
            due("20: 25", x.tells(3, 1), BAD);
        }
        fill(x, 2, 0, 257, 1, 1, 1, 1, 256);
        due("20: bytes have 8 bits", x.tells(2, 0), NONE);
        fill(x, 2, 1, 257, 1, 1, 1, 1, 256);
        due("20: ints have more", x.tells(2, 0), 0);
        x = new PebbleBars();
        x.sheet(0, 0, 0);
        due("20: no bars", x.tells(0, 0), NONE);
        due("20: no bars", x.tells(0, 1), 0);
    }

    private static void tellsLastOnes() {
        PebbleBars x = Checks.withBars(5, TETRA + " 34");
        fill(x, 0, 0, 1, 1, 1, 1, 1, 0, 1);
        due("20: the tail as the last one leaves all so", x.tells(0, 1), 64);
        due("20: all so now", x.tells(0, 0), NONE);
        fill(x, 0, 1, 1, 1, 1, 1, 1, 1, 0);
        due("20: one of the four as the last one", x.tells(0, 1), 63);
        due("20: not so now", x.tells(0, 0), 5);
        fill(x, 0, 1, 1, 1, 1, 1, 1, 1, 1);
        due("20: never", x.tells(0, 1), 0);
        fill(x, 0, 1, 1, 1, 1, 1, 1, 1);
        due("20: too few", x.tells(0, 1), 0);
        fill(x, 0, 1, 1, 1, 1, 1, 1, 1, 0, 0);
        due("20: too many", x.tells(0, 1), 0);
        due("20: changes nothing", x.between(3, 4), 6);
    }

    private static void film() {
        PebbleBars x = Checks.withBars(4, TETRA);
        due("21: no sheet", x.film(4), BAD);
        due("21: no sheet", x.film(-1), BAD);
        x.sheet(1, 1, 40);
        x.put(1, 5, 1);
        due("21: six", x.film(1), 6);
        due("21: as it is", x.tells(1, 0), NONE);
        due("21: six items", x.put(1, 6, 0), OUTSIDE);
        due("21: six items", x.put(1, 5, 256), 1);
        due("21: bytes", x.tells(1, 0), NONE);
        x.sheet(2, 0, 6);
        due("21: bytes", x.copy(1, 0, 2, 0, 6), 6);
        x.off(0, 1);
        due("21: the sheet stays", x.tells(2, 0), 5);
        due("21: a missing one", x.film(0), 5);
        due("21: five", x.tells(0, 0), NONE);
        x = new PebbleBars();
        due("21: no bars", x.film(0), 0);
        due("21: no items", x.put(0, 0, 0), OUTSIDE);
    }

    private static void imageAndBack() {
        PebbleBars x = new PebbleBars();
        due("23: none", x.back(), STATE);
        due("22: no pins", x.image(), 0);
        Checks.told(x, "pin ab");
        Checks.told(x, "pin cd");
        Checks.told(x, "pin ef");
        x.bar(0, 1);
        x.bar(1, 2);
        due("23: no pins", x.back(), 0);
        due("23: no bars", x.told(1), 0);
        Checks.told(x, "pin gh");
        Checks.told(x, "pin ij");
        x.bar(0, 1);
        due("22: two", x.image(), 2);
        x.off(0, 1);
        Checks.told(x, "pin kl");
        x.bar(0, 2);
        x.bar(1, 2);
        x.sheet(0, 0, 3);
        x.feed(2, 'i', 'j', 0, 0, 0);
        due("23: two", x.back(), 2);
        due("23: the tape stays", x.told(8), 2);
        due("23: names", x.named(), 1);
        due("23: names", Checks.named(x, "kl"), NONE);
        due("23: sheets stay", x.put(0, 2, 1), 1);
        dueLine("23", x, "gh-ij");
        x.off(0, 1);
        due("23: again", x.back(), 2);
        due("23: the bar", x.between(0, 1), 0);
        Checks.told(x, "pin mn");
        due("22: three", x.image(), 3);
        due("23: three", x.back(), 3);
    }

    private static void sheet() {
        PebbleBars x = new PebbleBars();
        due("24: bytes", x.sheet(0, 0, 3), 1);
        due("24: ints", x.sheet(3, 1, 40), 1);
        due("24: the last item", x.put(3, 39, 1), 1);
        due("24: no item more", x.put(3, 40, 1), OUTSIDE);
        due("24: empty", x.sheet(1, 0, 0), 1);
        due("24: no item", x.put(1, 0, 1), OUTSIDE);
        due("24: no sheet", x.sheet(4, 0, 3), BAD);
        due("24: no sheet", x.sheet(-1, 0, 3), BAD);
        due("24: no sheet, missing", x.sheet(4, -1, 3), BAD);
        due("24: sort", x.sheet(0, 2, 3), BAD);
        due("24: sort", x.sheet(0, -2, 3), BAD);
        due("24: above 40", x.sheet(0, 0, 41), BAD);
        due("24: above 40", x.sheet(0, 1, MOST), BAD);
        due("24: below 0", x.sheet(0, 0, -1), BELOW_ZERO);
        due("24: below 0", x.sheet(0, 1, LEAST), BELOW_ZERO);
        due("24: sort ahead of size", x.sheet(0, 2, -1), BAD);
        due("24: as it was", x.put(0, 2, 1), 1);
        due("24: missing", x.sheet(0, -1, 99), 1);
        due("24: missing", x.put(0, 0, 1), MISSING);
        due("24: missing", x.sheet(3, -1, -5), 1);
        due("24: missing", x.put(3, 0, 1), MISSING);
        PebbleBars y = Checks.withBars(3, "01 12");
        fill(y, 0, 1, 1, 1);
        due("24: ones", y.tells(0, 0), NONE);
        y.sheet(0, 1, 2);
        due("24: all 0", y.tells(0, 0), 0);
        y.put(0, 0, 1);
        due("24: all 0", y.tells(0, 0), 1);
    }

    private static void put() {
        PebbleBars x = Checks.withBars(3, "01 12");
        due("25: no sheet", x.put(4, 0, 0), BAD);
        due("25: no sheet", x.put(-1, 0, 0), BAD);
        due("25: missing", x.put(2, 0, 0), MISSING);
        due("25: missing ahead of outside", x.put(2, -1, 0), MISSING);
        x.sheet(2, 0, 2);
        due("25: outside", x.put(2, 2, 0), OUTSIDE);
        due("25: outside", x.put(2, -1, 0), OUTSIDE);
        due("25: outside", x.put(2, MOST, 0), OUTSIDE);
        due("25: outside", x.put(2, LEAST, 0), OUTSIDE);
        due("25: a byte", x.put(2, 0, 1), 1);
        due("25: its lowest 8 bits", x.put(2, 1, -255), 1);
        due("25: read back", x.tells(2, 0), NONE);
        x.put(2, 1, 0x7fffff00);
        due("25: its lowest 8 bits", x.tells(2, 0), 1);
        x.sheet(2, 1, 2);
        x.put(2, 0, 1);
        x.put(2, 1, -255);
        due("25: an int is whole", x.tells(2, 0), 1);
    }

    /** Whether the first items of a sheet, of a desk with pins enough, tell these bars. */
    private static void dueBars(String where, PebbleBars x, int sheet, int sort, int n, String want) {
        x.image();
        x.load(sheet, sort, 0, n);
        dueLine(where, x, want);
        x.back();
    }

    private static void copy() {
        PebbleBars x = Checks.withPins(8);
        fill(x, 0, 1, 0, 1, 2, 3, 4, 5);
        fill(x, 1, 1, 6, 6, 6, 6);
        due("26: two", x.copy(0, 2, 1, 1, 2), 2);
        dueBars("26: two", x, 1, 1, 2, "c-g d-g");
        due("26: forward over itself", x.copy(0, 0, 0, 1, 5), 5);
        dueBars("26: forward over itself", x, 0, 1, 3, "b-c d-e");
        fill(x, 0, 1, 0, 1, 2, 3, 4, 5);
        due("26: backward over itself", x.copy(0, 1, 0, 0, 5), 5);
        dueBars("26: backward over itself", x, 0, 1, 3, "b-c d-e");
        due("26: none, at both ends", x.copy(0, 6, 1, 4, 0), 0);
        due("26: all", x.copy(1, 0, 0, 2, 4), 4);
        int[][] outside = {{0, 5, 1, 0, 2}, {0, 0, 1, 3, 2}, {0, -1, 1, 0, 1}, {0, 0, 1, -1, 1}, {0, 0, 1, 0, -1},
            {0, 7, 1, 0, 0}, {0, 0, 1, 5, 0}, {0, MOST, 1, 0, 1}, {0, 1, 1, 0, MOST}, {0, LEAST, 1, 0, LEAST},
            {0, 0, 1, MOST, MOST}, {0, 0, 1, 0, 5}, {0, 0, 1, 0, 7}, {0, 1, 1, 1, LEAST}};
        for (int[] v : outside) {
            due("26: outside, " + v[1] + " " + v[3] + " " + v[4], x.copy(v[0], v[1], v[2], v[3], v[4]), OUTSIDE);
        }
        due("26: no sheet", x.copy(4, 0, 1, 0, 1), BAD);
        due("26: no sheet", x.copy(0, 0, -1, 0, 1), BAD);
        due("26: BAD ahead of -11", x.copy(3, 0, 4, 0, 1), BAD);
        due("26: missing", x.copy(3, 0, 1, 0, 1), MISSING);
        due("26: missing", x.copy(1, 0, 3, 0, 1), MISSING);
        due("26: missing ahead of outside", x.copy(1, -1, 3, 0, 1), MISSING);
        x.sheet(2, 0, 9);
        due("26: unlike sorts", x.copy(0, 0, 2, 0, 1), OTHER_SORT);
        due("26: unlike sorts ahead of outside", x.copy(2, 99, 1, 0, -1), OTHER_SORT);
        due("26: unlike sorts, none", x.copy(2, 0, 1, 0, 0), OTHER_SORT);
    }

    private static void load() {
        PebbleBars x = Checks.withPins(4);
        fill(x, 0, 0, 3, 3, 2, 0, 0, 2, 1, 3, 4, 0, 255, 1, 2, 1);
        due("27: from an odd one on", x.load(0, 0, 1, 1), 1);
        dueLine("27: from an odd one on", x, "c-d");
        due("27: those that come", x.load(0, 0, 0, 7), 3);
        dueLine("27: those that come", x, "c-d a-c b-d b-c");
        due("27: none of them", x.load(0, 0, 0, 7), 0);
        due("27: none", x.load(0, 0, 0, 0), 0);
        due("27: none, from outside", x.load(0, 0, 99, 0), 0);
        due("27: none, from below", x.load(0, 0, -1, 0), 0);
        due("27: up to the end", x.load(0, 0, 12, 1), 0);
        x.off(1, 2);
        due("27: what stood ahead came", x.load(0, 0, 12, 2), OUTSIDE);
        dueLine("27: what stood ahead came", x, "c-d a-c b-d b-c");
        due("27: half a bar", x.load(0, 0, 13, 1), OUTSIDE);
        due("27: from below", x.load(0, 0, -2, 2), OUTSIDE);
        due("27: from below", x.load(0, 0, -1, 1), OUTSIDE);
        due("27: from below", x.load(0, 0, LEAST, 24), OUTSIDE);
        due("27: from above", x.load(0, 0, MOST, 24), OUTSIDE);
        due("27: from above", x.load(0, 0, MOST - 1, 24), OUTSIDE);
        fill(x, 1, 1, 0, 256, 1, 256 + 3, 0, 1);
        due("27: ints are whole", x.load(1, 1, 0, 3), 1);
        dueLine("27: ints are whole", x, "c-d a-c b-d b-c a-b");
    }

    private static void loadRefusals() {
        PebbleBars x = Checks.withBars(12, FAN + " 13 24");
        fill(x, 0, 1, 1, 4, 1, 5, 1, 6, 0, 1);
        due("27: FULL is left out", x.load(0, 1, 0, 4), 1);
        due("27: 24", x.told(1), 24);
        due("27: FULL, then outside", x.load(0, 1, 4, 3), OUTSIDE);
        due("27: no sheet", x.load(4, 1, 0, 1), BAD);
        due("27: no sheet", x.load(-1, 1, 0, 1), BAD);
        due("27: sort", x.load(0, 2, 0, 1), BAD);
        due("27: sort", x.load(0, -1, 0, 1), BAD);
        due("27: n", x.load(0, 1, 0, 25), BAD);
        due("27: n", x.load(0, 1, 0, -1), BAD);
        due("27: n ahead of sort told", x.load(0, 0, 0, 25), BAD);
        due("27: n ahead of missing", x.load(1, 0, 0, -1), BAD);
        due("27: of another sort", x.load(0, 0, 0, 1), OTHER_SORT);
        due("27: of another sort, none", x.load(0, 0, 0, 0), OTHER_SORT);
        due("27: of another sort ahead of outside", x.load(0, 0, -9, 1), OTHER_SORT);
        due("27: missing", x.load(1, 0, 0, 1), MISSING);
        due("27: missing, none", x.load(1, 1, 0, 0), MISSING);
        due("27: missing ahead of outside", x.load(1, 1, -9, 1), MISSING);
        x.sheet(1, 0, 40);
        due("27: 20 of the same", x.load(1, 0, 0, 20), 0);
        due("27: 24 are too many", x.load(1, 0, 0, 24), OUTSIDE);
        due("27: changes nothing", x.told(1), 24);
    }
}
