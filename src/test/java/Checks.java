/** What the tests share: answers are compared here, and texts fed. */
final class Checks {
    private int wrong = 0;
    private int seen = 0;

    void due(String call, int got, int want) {
        seen++;
        if (got != want) {
            wrong++;
            System.out.println(call + " answered " + got + ", due is " + want);
        }
    }

    /** Ends the program, with exit code 1 if an answer was wrong. */
    void close() {
        System.out.println(seen + " answers looked at, " + wrong + " not as due");
        System.exit(wrong == 0 && seen > 0 ? 0 : 1);
    }

    static void feedAll(PebbleBars x, String text) {
        for (int from = 0; from < text.length(); from += 5) {
            int n = Math.min(5, text.length() - from);
            x.feed(n, byteAt(text, from), byteAt(text, from + 1), byteAt(text, from + 2),
                    byteAt(text, from + 3), byteAt(text, from + 4));
        }
    }

    private static int byteAt(String text, int i) {
        return i < text.length() ? text.charAt(i) : 0;
    }

    static int told(PebbleBars x, String text) {
        feedAll(x, text);
        return x.text();
    }

    static int named(PebbleBars x, String name) {
        feedAll(x, name);
        return x.named();
    }

    static String line(PebbleBars x) {
        StringBuilder line = new StringBuilder();
        for (int i = 0; i < x.line(PebbleBars.NONE); i++) {
            line.append((char) x.line(i));
        }
        return line.toString();
    }

    /** A desk with n pins, named a, b, c, .. */
    static PebbleBars withPins(int n) {
        PebbleBars x = new PebbleBars();
        for (int p = 0; p < n; p++) {
            told(x, "pin " + (char) ('a' + p));
        }
        return x;
    }

    /** A desk with n pins and bars told as "01 12 ..", each pin a sign of 0 .. 9, a, b. */
    static PebbleBars withBars(int n, String pairs) {
        PebbleBars x = withPins(n);
        for (String pair : pairs.split(" ")) {
            x.bar(Character.digit(pair.charAt(0), 12), Character.digit(pair.charAt(1), 12));
        }
        return x;
    }
}
