import java.util.function.Supplier;

/** All that can be seen of a desk, as one text. Some ways to look use the desk up: each way is given a new one. */
final class Probe {
    private static final int SHEETS = 4, MOST_ITEMS = 40;

    private Probe() {
    }

    static String of(Supplier<PebbleBars> maker) {
        StringBuilder seen = new StringBuilder();
        questions(maker.get(), seen);
        textThen(maker.get(), seen);
        seen.append("\nnamed ").append(maker.get().named());
        backThen(maker.get(), seen);
        for (int sheet = 0; sheet < SHEETS; sheet++) {
            items(maker.get(), sheet, seen);
        }
        return seen.toString();
    }

    /** What can be asked without changing anything. */
    private static void questions(PebbleBars x, StringBuilder seen) {
        for (int what = 0; what <= 8; what++) {
            seen.append(" told ").append(x.told(what));
        }
        frame(x, seen);
        for (int place = 0; place < x.told(1); place++) {
            seen.append(" carrying ").append(x.barAt(place, 2)).append(" overtied ").append(x.barAt(place, 3));
        }
        seen.append(" part ").append(x.part(0)).append(" worst ").append(x.worst(0)).append(' ').append(x.worst(1));
        seen.append(" lacking ").append(x.lacking(-1)).append(" line ").append(x.line(-1));
        for (int sheet = 0; sheet < SHEETS; sheet++) {
            seen.append(" sheet ").append(size(x, sheet)).append(" sort ").append(x.load(sheet, 0, 0, 0));
            seen.append(" tells ").append(x.tells(sheet, 0));
        }
    }

    private static void frame(PebbleBars x, StringBuilder seen) {
        seen.append("\npins");
        for (int p = 0; p < x.told(0); p++) {
            seen.append(' ');
            for (int i = 0; i < x.pin(p, 3); i++) {
                seen.append((char) x.pin(p, 10 + i));
            }
        }
        seen.append(" bars");
        for (int place = 0; place < x.told(1); place++) {
            seen.append(' ').append(x.barAt(place, 0)).append('-').append(x.barAt(place, 1));
        }
    }

    /** A sheet's items are copied onto themselves: as many as there are can be. */
    private static int size(PebbleBars x, int sheet) {
        int low = 0;
        int high = MOST_ITEMS;
        if (x.copy(sheet, 0, sheet, 0, 0) < 0) {
            return x.copy(sheet, 0, sheet, 0, 0);
        }
        while (low < high) {
            int n = (low + high + 1) / 2;
            boolean fits = x.copy(sheet, 0, sheet, 0, n) == n;
            low = fits ? n : low;
            high = fits ? high : n - 1;
        }
        return low;
    }

    private static void textThen(PebbleBars x, StringBuilder seen) {
        seen.append("\ntext ").append(x.text());
        frame(x, seen);
    }

    private static void backThen(PebbleBars x, StringBuilder seen) {
        seen.append("\nback ").append(x.back());
        frame(x, seen);
    }

    /** Items are seen as pins of bars: the desk gets twelve pins and loses its bars for it. */
    private static void items(PebbleBars x, int sheet, StringBuilder seen) {
        x.named();
        for (char letter = 'a'; x.told(0) < 12; letter++) {
            Checks.told(x, "pin q" + letter);
        }
        while (x.told(1) > 0) {
            x.off(x.barAt(0, 0), x.barAt(0, 1));
        }
        int size = Math.max(0, size(x, sheet));
        seen.append("\nitems");
        for (int sort = 0; sort < 2; sort++) {
            seen.append(' ').append(x.load(sheet, sort, 0, size / 2));
            // Of an odd number of items the last one is seen so.
            seen.append(' ').append(x.load(sheet, sort, size % 2, size / 2));
        }
        for (int place = 0; place < x.told(1); place++) {
            seen.append(' ').append(x.barAt(place, 0)).append('-').append(x.barAt(place, 1));
        }
    }
}
