import java.util.function.ToIntFunction;

/** What the tests of boundary cases share: each case is told with its promise and the document's words. */
final class Edges {
    static final int NONE = -1, BAD = -2, STATE = -3, FULL = -4;
    static final int MISSING = -11, OUTSIDE = -12, OTHER_SORT = -13, BELOW_ZERO = -14;
    static final int MOST = Integer.MAX_VALUE, LEAST = Integer.MIN_VALUE;

    private final Checks checks = new Checks();
    private String words = "";

    /** From here on, cases of these words of the document (" .. " where some are left out). */
    void says(int promise, String quoted) {
        words = "promise " + promise + ", \"" + quoted + "\": ";
    }

    /** The same, with words of the test's own on what of it is looked at. */
    void says(int promise, String quoted, String own) {
        words = "promise " + promise + ", \"" + quoted + "\", " + own + ": ";
    }

    void due(String call, int got, int want) {
        checks.due(words + call, got, want);
    }

    void dueLine(String where, PebbleBars x, String want) {
        String got = Checks.line(x);
        due(where + ": line '" + got + "', due is '" + want + "'", got.equals(want) ? 1 : 0, 1);
    }

    /** The call answers so, and nothing has changed by it. */
    void same(String call, Desk desk, ToIntFunction<PebbleBars> asked, int want) {
        leaves(call, desk, asked, want, desk);
    }

    /** The call answers so, and all is then as on another desk. */
    void leaves(String call, Desk desk, ToIntFunction<PebbleBars> done, int want, Desk as) {
        due(call, done.applyAsInt(desk.make()), want);
        String seen = desk.then(x -> done.applyAsInt(x)).seen();
        if (!seen.equals(as.seen())) {
            due(call + ": what it left is not as due\n" + seen + "\nbut\n" + as.seen(), 0, 1);
        } else {
            due(call, 1, 1);
        }
    }

    /** A text is refused so: THE TAPE is empty then, all else is as it was. The desk's tape is empty. */
    void refusedText(String text, Desk desk, int want) {
        leaves("text '" + text + "'", desk.fed(text), PebbleBars::text, want, desk);
    }

    /** Of two pins: numbers of no pin, on each side, and the same pin twice, on a desk of so many pins. */
    void badPins(String call, Desk desk, int pins, PairCall asked) {
        int last = pins - 1;
        int[][] pairs = {{-1, last}, {last, -1}, {pins, 0}, {0, pins}, {MOST, 0}, {0, MOST}, {LEAST, 0}, {0, LEAST},
            {12, 0}, {0, 12}, {-1, -1}, {pins, pins}, {0, 0}, {last, last}, {LEAST, MOST}, {-1, -2}};
        for (int[] pair : pairs) {
            same(call + "(" + pair[0] + ", " + pair[1] + ") of " + pins + " pins", desk,
                    x -> asked.on(x, pair[0], pair[1]), BAD);
        }
    }

    /** Of a place: those outside, on each side, on a desk of so many bars. */
    void outsidePlaces(String call, Desk desk, int bars, PlaceCall asked) {
        for (int place : new int[] {-1, -2, bars, bars + 1, 24, 25, 31, 32, MOST, LEAST}) {
            if (place < 0 || place >= bars) {
                same(call + "(" + place + ") of " + bars + " bars", desk, x -> asked.on(x, place), OUTSIDE);
            }
        }
    }

    void close() {
        checks.close();
    }

    /** A call with two pins. */
    interface PairCall {
        int on(PebbleBars x, int p, int q);
    }

    /** A call with a place. */
    interface PlaceCall {
        int on(PebbleBars x, int place);
    }
}
