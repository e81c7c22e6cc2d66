import java.util.function.Consumer;
import java.util.function.Supplier;

/** A way to make a desk: the same one as often as it is asked for, so that a call on it can be compared with none. */
final class Desk {
    /** Twelve pins, 21 bars: a stiff fan without extra ones. */
    static final String FAN = "01 02 12 03 23 04 34 05 45 06 56 07 67 08 78 09 89 0a 9a 0b ab";
    /** Seven pins, 21 bars: all that can be. */
    static final String SEVEN = "01 02 03 04 05 06 12 13 14 15 16 23 24 25 26 34 35 36 45 46 56";
    /** Two pins, each with ten others: 20 bars, a freedom too many. */
    static final String TWO_TO_TEN = "02 03 04 05 06 07 08 09 0a 0b 12 13 14 15 16 17 18 19 1a 1b";
    static final String TETRA = "01 02 12 23 03 13";

    private final Supplier<PebbleBars> maker;
    private String seen = null;

    private Desk(Supplier<PebbleBars> maker) {
        this.maker = maker;
    }

    static Desk empty() {
        return new Desk(PebbleBars::new);
    }

    /** With n pins, named a, b, c, .. */
    static Desk pins(int n) {
        return new Desk(() -> Checks.withPins(n));
    }

    static Desk bars(int n, String pairs) {
        return new Desk(() -> Checks.withBars(n, pairs));
    }

    /** 12 pins, 24 bars, an image of 11 pins and 2 bars, sheets of 40 ints, of 40 bytes, of no bytes, a missing one. */
    static Desk full() {
        return new Desk(() -> {
            PebbleBars x = Checks.withBars(11, "12 0a");
            x.image();
            x.off(1, 2);
            x.off(0, 10);
            Checks.told(x, "pin l");
            for (String pair : (FAN + " 13 24 35").split(" ")) {
                x.bar(Character.digit(pair.charAt(0), 12), Character.digit(pair.charAt(1), 12));
            }
            x.sheet(0, 1, 40);
            x.sheet(1, 0, 40);
            for (int i = 0; i < 20; i++) {
                x.put(0, 2 * i, i < 11 ? 0 : 1);
                x.put(0, 2 * i + 1, i < 11 ? i + 1 : i - 9);
                x.put(1, 2 * i, i < 10 ? 11 : 10);
                x.put(1, 2 * i + 1, i < 10 ? i + 1 : i - 10);
            }
            x.sheet(2, 0, 0);
            return x;
        });
    }

    Desk then(Consumer<PebbleBars> more) {
        return new Desk(() -> {
            PebbleBars x = maker.get();
            more.accept(x);
            return x;
        });
    }

    Desk fed(String text) {
        return then(x -> Checks.feedAll(x, text));
    }

    PebbleBars make() {
        return maker.get();
    }

    /** All that can be seen of the desk. */
    String seen() {
        if (seen == null) {
            seen = Probe.of(maker);
        }
        return seen;
    }
}
