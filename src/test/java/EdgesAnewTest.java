/** What is asked of a frame does not hang on what was asked of an earlier one: each question is asked ahead and anew. */
public final class EdgesAnewTest {
    private static final Edges EDGES = new Edges();
    /** At most seven pins, so that asking twice stays within 512 calls. */
    private static final String[] FRAMES = {"", "01", "01 12 23 34 45 56", "01 02 12 23 03", Desk.TETRA, "34 " + Desk.TETRA,
        "03 04 05 13 14 15 23 24 25", "01 02 03 12 13 45 46 56 24 35 16", "45 46 56 01 02 12", "56",
        "01 02 12 03 23 04 34 05 45 06 56", "01 02 05 31 35 41 42 45 36 26 06", "23 24 25 26 34 35 36 45 46 56"};

    public static void main(String[] args) {
        for (String first : FRAMES) {
            for (String second : FRAMES) {
                anew(first, second);
            }
        }
        fewerPins();
        EDGES.close();
    }

    private static void change(PebbleBars x, String pairs, boolean come) {
        for (String pair : pairs.isEmpty() ? new String[0] : pairs.split(" ")) {
            int p = pair.charAt(0) - '0';
            int q = pair.charAt(1) - '0';
            EDGES.due("bar or off", Math.min(0, come ? x.bar(p, q) : x.off(p, q)), 0);
        }
    }

    private static void anew(String first, String second) {
        EDGES.says(7, "A desk for bars and pins in the plane", "'" + second + "' asked behind '" + first + "'");
        PebbleBars x = Checks.withPins(7);
        change(x, first, true);
        answers(x);
        change(x, first, false);
        change(x, second, true);
        PebbleBars y = Checks.withPins(7);
        change(y, second, true);
        dueSame(answers(x), answers(y));
    }

    private static void fewerPins() {
        for (int pins = 0; pins <= 7; pins++) {
            EDGES.says(23, "All that it keeps is as in THE IMAGE", pins + " pins asked behind seven");
            PebbleBars x = Checks.withPins(pins);
            x.image();
            for (int p = pins; p < 7; p++) {
                Checks.told(x, "pin " + (char) ('a' + p));
            }
            change(x, "23 24 25 26 34 35 36 45 46 56", true);
            answers(x);
            EDGES.due("back", x.back(), pins);
            dueSame(answers(x), answers(Checks.withPins(pins)));
        }
    }

    private static void dueSame(String got, String want) {
        EDGES.due("answers\n" + got + "\nbut\n" + want, got.equals(want) ? 1 : 0, 1);
    }

    /** What can be asked of the frame, as one text. */
    private static String answers(PebbleBars x) {
        StringBuilder all = new StringBuilder();
        int pins = x.told(0);
        int bars = x.told(1);
        for (int what = 2; what <= 7; what++) {
            all.append(" told ").append(x.told(what));
        }
        for (int i = 0; i <= 11; i++) {
            all.append(" part ").append(x.part(i));
        }
        for (int place = 0; place <= bars; place++) {
            all.append(" place ").append(x.barAt(place, 2)).append(' ').append(x.barAt(place, 3));
            all.append(' ').append(x.ring(place)).append(' ').append(x.without(place));
        }
        for (int p = 0; p < pins; p++) {
            all.append(" pin ").append(x.pin(p, 0)).append(' ').append(x.pin(p, 2));
            all.append(' ').append(x.tied(0, p)).append(' ').append(x.with(p, pins - 1));
        }
        all.append(" worst ").append(x.worst(0)).append(' ').append(x.worst(1));
        for (int i = -1; i <= 11; i++) {
            all.append(" lacking ").append(x.lacking(i));
        }
        for (int i = 0; i <= 5; i++) {
            all.append(" down ").append(x.down(i, 0)).append(' ').append(x.down(i, 1)).append(' ').append(x.down(i, 2));
        }
        return all.toString();
    }
}
