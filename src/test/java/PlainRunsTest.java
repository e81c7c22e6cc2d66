import java.util.ArrayList;
import java.util.List;

/** Long runs of calls, made by a fixed rule, on the desk and on the plain one: every answer is compared. */
public final class PlainRunsTest {
    /** Of the 512 calls of an object some are left for a step that has begun, and for what is asked last. */
    private static final int CALLS = 512 - 9 - 9;
    private static final String[] WORDS = {"pin", "bar", "off", "pins", "abcde", "", "x!", "A"};
    private static final int[] EXTREMES = {-1, -2, 12, 24, 25, 40, 41, 100, Integer.MAX_VALUE, Integer.MIN_VALUE};

    private final Checks checks = new Checks();
    private long seed = 20261118L;
    private PebbleBars x;
    private PlainDesk y;
    private int run;
    private int calls;
    private int mostPins;

    public static void main(String[] args) {
        PlainRunsTest test = new PlainRunsTest();
        for (int run = 0; run < 260; run++) {
            test.oneRun(run, 2 + run % 6);
        }
        for (int run = 260; run < 264; run++) {
            test.oneRun(run, 9 + run % 4);
        }
        for (int run = 264; run < 300; run++) {
            test.takenDown(run, 3 + run % 7);
        }
        for (int run = 300; run < 400; run++) {
            test.takenDownByThrees(run, 6 + run % 4);
        }
        for (int run = 400; run < 406; run++) {
            test.takenDownByThrees(run, 10 + run % 3);
        }
        test.checks.close();
    }

    private int pick(int n) {
        seed = seed * 6364136223846793005L + 1442695040888963407L;
        return (int) ((seed >>> 33) % n);
    }

    private void due(String call, int got, int want) {
        calls++;
        checks.due("run " + run + ": " + call, got, want);
    }

    private void start(int number, int pins) {
        run = number;
        calls = 0;
        mostPins = pins;
        x = new PebbleBars();
        y = new PlainDesk();
    }

    private void oneRun(int number, int pins) {
        start(number, pins);
        while (calls < CALLS) {
            // Questions cost the plain desk much with many pins: most calls change things there.
            int kind = pick(pins > 8 ? 40 : 20);
            if (kind < 4) {
                text();
            } else if (kind < 6 || kind > 20) {
                change();
            } else if (kind < 10) {
                host();
            } else {
                ask();
            }
        }
        for (int i = 0; i < 9; i++) {
            due("told(" + i + ")", x.told(i), y.told(i));
        }
    }

    /** A stiff frame without extra bars is grown of bars that carry, then taken down. */
    private void takenDown(int number, int pins) {
        start(number, pins);
        addPins();
        for (int i = 0; i < 400 && y.told(4) == 0; i++) {
            int p = pick(pins);
            int q = pick(pins);
            if (y.tied(p, q) == 0) {
                due("bar", x.bar(p, q), y.bar(p, q));
            }
        }
        dueSteps();
    }

    /** The same, but each pin has three bars at least: a pin more cuts a bar in two and gets a third. */
    private void takenDownByThrees(int number, int pins) {
        start(number, pins);
        addPins();
        String first = pick(2) == 0 ? "03 04 05 13 14 15 23 24 25" : "01 02 12 34 35 45 03 14 25";
        List<int[]> bars = new ArrayList<>();
        for (String pair : first.split(" ")) {
            bars.add(new int[] {pair.charAt(0) - '0', pair.charAt(1) - '0'});
        }
        for (int more = 6; more < pins; more++) {
            int[] cut = bars.remove(pick(bars.size()));
            int third = pick(more);
            while (third == cut[0] || third == cut[1]) {
                third = pick(more);
            }
            bars.add(new int[] {cut[0], more});
            bars.add(new int[] {cut[1], more});
            bars.add(new int[] {third, more});
        }
        int[] mixed = mixed(pins);
        for (int i : mixed(bars.size())) {
            int p = mixed[bars.get(i)[0]];
            int q = mixed[bars.get(i)[1]];
            due("bar", x.bar(p, q), y.bar(p, q));
        }
        dueSteps();
    }

    private void addPins() {
        for (int p = 0; p < mostPins; p++) {
            feed("pin " + (char) ('a' + p));
            due("text()", x.text(), y.text());
        }
    }

    private int[] mixed(int n) {
        int[] order = new int[n];
        for (int i = 0; i < n; i++) {
            int other = pick(i + 1);
            order[i] = order[other];
            order[other] = i;
        }
        return order;
    }

    private void dueSteps() {
        due("stiff", x.told(4), 1);
        List<int[]> steps = y.takenDown();
        for (int i = 0; i < steps.size(); i++) {
            for (int what = 0; what < 3; what++) {
                due("down(" + i + ", " + what + ")", x.down(i, what), steps.get(i)[what]);
            }
        }
        due("down, behind", x.down(steps.size(), 0), -12);
    }

    private void feed(String text) {
        for (int from = 0; from < text.length(); from += 5) {
            int n = Math.min(5, text.length() - from);
            int[] v = new int[5];
            for (int i = 0; i < n; i++) {
                v[i] = text.charAt(from + i);
            }
            due("feed '" + text + "'", x.feed(n, v[0], v[1], v[2], v[3], v[4]), y.feed(n, v));
        }
    }

    private String word() {
        if (pick(25) == 0) {
            return WORDS[pick(WORDS.length)];
        }
        int who = pick(mostPins);
        return "klmnopqrstuv".substring(who, who + 1).repeat(1 + who % 4);
    }

    private String blanks() {
        return pick(8) == 0 ? "  " : " ";
    }

    private void text() {
        int verb = pick(9);
        String text = verb < 4 ? "pin" : verb < 7 ? "bar" : verb < 8 ? "off" : word();
        int words = pick(20) == 0 ? pick(4) : verb < 4 ? 1 : 2;
        for (int i = 0; i < words; i++) {
            text += blanks() + word();
        }
        if (pick(12) == 0) {
            text = " " + text + "  ";
        }
        if (pick(30) == 0) {
            text += (char) pick(256);
        }
        if (pick(6) == 0) {
            text = word();
        }
        feed(text);
        if (pick(6) == 0) {
            due("named() of '" + text + "'", x.named(), y.named());
        } else if (pick(20) != 0) {
            due("text() of '" + text + "'", x.text(), y.text());
        }
    }

    private int number(int usual) {
        return pick(15) == 0 ? EXTREMES[pick(EXTREMES.length)] : pick(usual);
    }

    private void change() {
        int p = number(mostPins);
        int q = number(mostPins);
        switch (pick(16)) {
            case 0:
                due("image()", x.image(), y.image());
                return;
            case 1:
                if (pick(3) == 0) {
                    due("back()", x.back(), y.back());
                }
                return;
            case 2:
            case 3:
                due("off(" + p + ", " + q + ")", x.off(p, q), y.off(p, q));
                return;
            default:
                due("bar(" + p + ", " + q + ")", x.bar(p, q), y.bar(p, q));
        }
    }

    private void host() {
        int sheet = pick(20) == 0 ? number(5) : pick(3);
        int sort = pick(15) == 0 ? number(3) : pick(2);
        int i = number(10);
        int j = number(10);
        int n = number(12);
        switch (pick(9)) {
            case 0:
                due("sheet(" + sheet + ", " + sort + ", " + n + ")", x.sheet(sheet, sort, n), y.sheet(sheet, sort, n));
                return;
            case 1:
                int other = pick(3);
                due("copy(" + sheet + ", " + i + ", " + other + ", " + j + ", " + n + ")",
                        x.copy(sheet, i, other, j, n), y.copy(sheet, i, other, j, n));
                return;
            case 2:
                due("load(" + sheet + ", " + sort + ", " + i + ", " + n + ")",
                        x.load(sheet, sort, i, n), y.load(sheet, sort, i, n));
                return;
            case 3:
                due("film(" + sheet + ")", x.film(sheet), y.film(sheet));
                return;
            case 4:
                int a = number(256);
                due("feed", x.feed(j, a, i, 0, 0, 0), y.feed(j, a, i, 0, 0, 0));
                return;
            default:
                int v = pick(5) == 0 ? number(600) - 300 : pick(mostPins);
                due("put(" + sheet + ", " + i + ", " + v + ")", x.put(sheet, i, v), y.put(sheet, i, v));
        }
    }

    private void ask() {
        int p = number(mostPins);
        int q = number(mostPins);
        int i = number(10);
        int place = pick(4) == 0 ? pick(24) : number(10);
        int what = number(4);
        switch (pick(15)) {
            case 0 -> due("told(" + i + ")", x.told(i), y.told(i));
            case 1 -> due("barAt(" + place + ", " + what + ")", x.barAt(place, what), y.barAt(place, what));
            case 2 -> due("pin(" + p + ", " + what + ")", x.pin(p, what), y.pin(p, what));
            case 3 -> due("pin(" + p + ", " + (i + 8) + ")", x.pin(p, i + 8), y.pin(p, i + 8));
            case 4 -> due("between(" + p + ", " + q + ")", x.between(p, q), y.between(p, q));
            case 5 -> due("tied(" + p + ", " + q + ")", x.tied(p, q), y.tied(p, q));
            case 6 -> due("part(" + what + ")", x.part(what), y.part(what));
            case 7 -> due("ring(" + place + ")", x.ring(place), y.ring(place));
            case 8 -> due("worst(" + what % 3 + ")", x.worst(what % 3), y.worst(what % 3));
            case 9 -> due("without(" + place + ")", x.without(place), y.without(place));
            case 10 -> due("with(" + p + ", " + q + ")", x.with(p, q), y.with(p, q));
            case 11 -> due("lacking(" + (what - 1) + ")", x.lacking(what - 1), y.lacking(what - 1));
            case 12 -> due("down(" + i + ", " + what + ")", x.down(i, what), y.down(i, what));
            case 13 -> due("line(" + (5 * what + i - 1) + ")", x.line(5 * what + i - 1), y.line(5 * what + i - 1));
            default -> due("tells(" + what + ", " + i % 3 + ")", x.tells(what, i % 3), y.tells(what, i % 3));
        }
    }
}
