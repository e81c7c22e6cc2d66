/** A desk for bars and pins in the plane; README.md says how it is used. */
public final class PebbleBars {
    public static final int NONE = -1, BAD = -2, STATE = -3, FULL = -4;

    private static final int MISSING = -11, OUTSIDE = -12, OTHER_SORT = -13, BELOW_ZERO = -14;
    private static final int FAULT = -100;
    private static final int MAX_PINS = 12, MAX_BARS = 24, MAX_LETTERS = 4;
    private static final int MAX_BYTES = 30, MAX_FED = 5;
    private static final int SHEETS = 4, MAX_ITEMS = 40, BYTES = 0, INTS = 1;
    private static final int FIRST_LETTER = 10, PAIR = 100, WORST_BASE = 1000;
    private static final int BLANK = ' ', DASH = '-';
    private static final int WORD_PIN = 'p' << 16 | 'i' << 8 | 'n';
    private static final int WORD_BAR = 'b' << 16 | 'a' << 8 | 'r';
    private static final int WORD_OFF = 'o' << 16 | 'f' << 8 | 'f';

    private final Frame frame = new Frame();
    private final Frame kept = new Frame();
    private boolean isKept = false;
    private final Tape tape = new Tape();
    private final Study study = new Study();
    private final TakeDown takeDown = new TakeDown();
    private final Sheet[] sheets = new Sheet[SHEETS];

    public PebbleBars() {
        for (int i = 0; i < SHEETS; i++) {
            sheets[i] = new Sheet();
        }
    }

    // ---- texts

    public int feed(int n, int a, int b, int c, int d, int e) {
        if (n < 1 || n > MAX_FED) {
            return BAD;
        }
        if (!isByte(a) || !isByte(b) || !isByte(c) || !isByte(d) || !isByte(e)) {
            return BAD;
        }
        if (n > MAX_BYTES - tape.size) {
            return FULL;
        }
        for (int i = 0; i < n; i++) {
            tape.add(i == 0 ? a : i == 1 ? b : i == 2 ? c : i == 3 ? d : e);
        }
        return tape.size;
    }

    public int text() {
        int answer = doneAsText();
        tape.empty();
        return answer;
    }

    public int named() {
        int whose = frame.pinOfName(tape.wholeWord());
        tape.empty();
        return whose;
    }

    // ---- bars

    public int bar(int p, int q) {
        if (!areUnlikePins(p, q)) {
            return BAD;
        }
        if (frame.placeOf(p, q) != NONE) {
            return STATE;
        }
        return frame.addBar(p, q);
    }

    public int off(int p, int q) {
        if (!areUnlikePins(p, q)) {
            return BAD;
        }
        int place = frame.placeOf(p, q);
        if (place == NONE) {
            return STATE;
        }
        frame.dropBar(place);
        return place;
    }

    public int told(int what) {
        study.settle(frame);
        switch (what) {
            case 0:
                return frame.pins;
            case 1:
                return frame.bars;
            case 2:
                return study.rank;
            case 3:
                return study.freedoms;
            case 4:
                return study.isStiff ? 1 : 0;
            case 5:
                return frame.bars - study.rank;
            case 6:
                study.findParts(frame.pins);
                return study.partCount;
            case 7:
                return study.countOvertied(frame);
            case 8:
                return tape.size;
            default:
                return BAD;
        }
    }

    public int barAt(int place, int what) {
        if (what < 0 || what > 3) {
            return BAD;
        }
        if (!isPlace(place)) {
            return OUTSIDE;
        }
        switch (what) {
            case 0:
                return frame.lesser[place];
            case 1:
                return frame.greater[place];
            case 2:
                study.settle(frame);
                return study.carrying >> place & 1;
            default:
                return study.isOvertied(frame, place) ? 1 : 0;
        }
    }

    public int pin(int p, int what) {
        if (!isPin(p)) {
            return BAD;
        }
        switch (what) {
            case 0:
                return Integer.bitCount(frame.neighbours(p));
            case 1:
                return frame.neighbours(p);
            case 2:
                study.settle(frame);
                study.findParts(frame.pins);
                return study.countPartsOf(p);
            case 3:
                return frame.letters(p);
            default:
                break;
        }
        if (what < FIRST_LETTER || what >= FIRST_LETTER + MAX_LETTERS) {
            return BAD;
        }
        return frame.letter(p, what - FIRST_LETTER);
    }

    public int between(int p, int q) {
        if (!areUnlikePins(p, q)) {
            return BAD;
        }
        return frame.placeOf(p, q);
    }

    // ---- rigid parts

    public int tied(int p, int q) {
        if (!areUnlikePins(p, q)) {
            return BAD;
        }
        study.settle(frame);
        return study.isTied(p, q) ? 1 : 0;
    }

    public int part(int i) {
        study.settle(frame);
        study.findParts(frame.pins);
        if (i < 0 || i >= study.partCount) {
            return OUTSIDE;
        }
        return study.parts[i];
    }

    public int ring(int place) {
        if (!isPlace(place)) {
            return OUTSIDE;
        }
        study.settle(frame);
        if ((study.carrying >> place & 1) == 1) {
            return STATE;
        }
        return study.ringOf(frame, place);
    }

    public int worst(int what) {
        if (what != 0 && what != 1) {
            return BAD;
        }
        if (frame.pins < 2) {
            return STATE;
        }
        study.seekWorst(frame);
        return what == 0 ? WORST_BASE + study.worstBy : study.worstPins;
    }

    // ---- what would be

    public int without(int place) {
        if (!isPlace(place)) {
            return OUTSIDE;
        }
        return study.freedomsWithout(frame, place);
    }

    public int with(int p, int q) {
        if (!areUnlikePins(p, q)) {
            return BAD;
        }
        study.settle(frame);
        return study.isTied(p, q) ? study.freedoms : study.freedoms - 1;
    }

    public int lacking(int i) {
        if (i < NONE) {
            return OUTSIDE;
        }
        study.settle(frame);
        return study.lackingAt(frame.pins, i);
    }

    public int down(int i, int what) {
        if (what < 0 || what > 2) {
            return BAD;
        }
        study.settle(frame);
        if (!study.isStiff || study.rank != frame.bars) {
            return STATE;
        }
        takeDown.run(frame);
        if (i < 0 || i >= takeDown.steps) {
            return OUTSIDE;
        }
        return what == 0 ? takeDown.gone[i] : what == 1 ? takeDown.had[i] : takeDown.came[i];
    }

    public int line(int i) {
        int at = 0;
        for (int place = 0; place < frame.bars; place++) {
            if (place > 0) {
                if (i == at) {
                    return BLANK;
                }
                at++;
            }
            int size = frame.barSize(place);
            if (i >= at && i < at + size) {
                return frame.barLetter(place, i - at);
            }
            at += size;
        }
        return i == NONE ? at : NONE;
    }

    // ---- what was told

    public int tells(int sheet, int what) {
        if (!isSheet(sheet) || what != 0 && what != 1) {
            return BAD;
        }
        Sheet teller = sheets[sheet];
        if (teller.isMissing()) {
            return MISSING;
        }
        if (teller.size > MAX_BARS) {
            return BAD;
        }
        return what == 0 ? firstOtherwise(teller) : lastOnesAsTold(teller);
    }

    public int film(int sheet) {
        if (!isSheet(sheet)) {
            return BAD;
        }
        study.settle(frame);
        sheets[sheet].become(BYTES, frame.bars);
        for (int place = 0; place < frame.bars; place++) {
            sheets[sheet].write(place, study.carrying >> place & 1);
        }
        return frame.bars;
    }

    public int image() {
        kept.takeFrom(frame);
        isKept = true;
        return frame.pins;
    }

    public int back() {
        if (!isKept) {
            return STATE;
        }
        frame.takeFrom(kept);
        return frame.pins;
    }

    // ---- the host

    public int sheet(int sheet, int sort, int n) {
        if (!isSheet(sheet) || sort != NONE && !isSort(sort)) {
            return BAD;
        }
        if (sort == NONE) {
            sheets[sheet].become(NONE, 0);
            return 1;
        }
        if (n > MAX_ITEMS) {
            return BAD;
        }
        if (n < 0) {
            return BELOW_ZERO;
        }
        sheets[sheet].become(sort, n);
        return 1;
    }

    public int put(int sheet, int i, int v) {
        if (!isSheet(sheet)) {
            return BAD;
        }
        if (sheets[sheet].isMissing()) {
            return MISSING;
        }
        if (!sheets[sheet].has(i)) {
            return OUTSIDE;
        }
        sheets[sheet].write(i, v);
        return 1;
    }

    public int copy(int sheet, int i, int other, int j, int n) {
        if (!isSheet(sheet) || !isSheet(other)) {
            return BAD;
        }
        Sheet from = sheets[sheet];
        Sheet to = sheets[other];
        if (from.isMissing() || to.isMissing()) {
            return MISSING;
        }
        if (from.sort != to.sort) {
            return OTHER_SORT;
        }
        if (!from.hasRun(i, n) || !to.hasRun(j, n)) {
            return OUTSIDE;
        }
        System.arraycopy(from.items, i, to.items, j, n);
        return n;
    }

    public int load(int sheet, int sort, int from, int n) {
        if (!isSheet(sheet) || !isSort(sort) || n < 0 || n > MAX_BARS) {
            return BAD;
        }
        Sheet source = sheets[sheet];
        if (source.isMissing()) {
            return MISSING;
        }
        if (source.sort != sort) {
            return OTHER_SORT;
        }
        int came = 0;
        for (int i = 0; i < n; i++) {
            int at = from + 2 * i;
            if (!source.hasRun(at, 2)) {
                return OUTSIDE;
            }
            if (bar(source.items[at], source.items[at + 1]) >= 0) {
                came++;
            }
        }
        return came;
    }

    // ---- tests of arguments

    private static boolean isByte(int value) {
        return value >= 0 && value <= 255;
    }

    private static boolean isSort(int sort) {
        return sort == BYTES || sort == INTS;
    }

    private static boolean isSheet(int sheet) {
        return sheet >= 0 && sheet < SHEETS;
    }

    private boolean isPin(int p) {
        return p >= 0 && p < frame.pins;
    }

    private boolean areUnlikePins(int p, int q) {
        return isPin(p) && isPin(q) && p != q;
    }

    private boolean isPlace(int place) {
        return place >= 0 && place < frame.bars;
    }

    // ---- a text

    private int doneAsText() {
        int verb = tape.firstWord();
        if (verb == WORD_PIN) {
            return doneAsPin();
        }
        if (verb == WORD_BAR || verb == WORD_OFF) {
            return doneAsBar(verb == WORD_BAR);
        }
        return faultHere();
    }

    private int doneAsPin() {
        int name = tape.nextWord();
        if (!isName(name) || frame.pinOfName(name) != NONE) {
            return faultHere();
        }
        if (!tape.endsNext()) {
            return faultHere();
        }
        return frame.addPin(name);
    }

    private int doneAsBar(boolean comes) {
        int p = frame.pinOfName(tape.nextWord());
        if (p == NONE) {
            return faultHere();
        }
        int q = frame.pinOfName(tape.nextWord());
        if (q == NONE || q == p) {
            return faultHere();
        }
        if (!tape.endsNext()) {
            return faultHere();
        }
        return comes ? bar(p, q) : off(p, q);
    }

    private int faultHere() {
        return FAULT - tape.start;
    }

    private static boolean isName(int word) {
        return word != NONE && word != WORD_PIN && word != WORD_BAR && word != WORD_OFF;
    }

    // ---- what a sheet tells

    private int firstOtherwise(Sheet teller) {
        study.settle(frame);
        for (int place = 0; place < teller.size; place++) {
            if (place >= frame.bars || teller.tellsCarrying(place) != (study.carrying >> place & 1)) {
                return place;
            }
        }
        return teller.size < frame.bars ? teller.size : NONE;
    }

    private int lastOnesAsTold(Sheet teller) {
        if (teller.size != frame.bars) {
            return 0;
        }
        int asTold = 0;
        for (int place = 0; place < teller.size; place++) {
            asTold |= teller.tellsCarrying(place) << place;
        }
        int bars = 0;
        for (int place = 0; place < frame.bars; place++) {
            if (study.carryingWithLast(frame, place) == asTold) {
                bars |= 1 << place;
            }
        }
        return bars;
    }

    /** Pins with their names, and bars by places. */
    private static final class Frame {
        int pins = 0;
        int bars = 0;
        /** A name is its letters as bytes of one number, the last letter lowest. */
        final int[] names = new int[MAX_PINS];
        final int[] lesser = new int[MAX_BARS];
        final int[] greater = new int[MAX_BARS];

        /** Its number, or FULL. */
        int addPin(int name) {
            if (pins >= MAX_PINS) {
                return FULL;
            }
            names[pins] = name;
            pins++;
            return pins - 1;
        }

        int pinOfName(int name) {
            for (int p = 0; p < pins; p++) {
                if (names[p] == name) {
                    return p;
                }
            }
            return NONE;
        }

        int letters(int p) {
            int count = 0;
            for (int rest = names[p]; rest != 0 && count < MAX_LETTERS; rest >>= 8) {
                count++;
            }
            return count;
        }

        int letter(int p, int i) {
            int behind = letters(p) - 1 - i;
            return behind < 0 ? NONE : names[p] >> 8 * behind & 255;
        }

        /** Its place, or FULL. */
        int addBar(int p, int q) {
            if (bars >= MAX_BARS) {
                return FULL;
            }
            lesser[bars] = Math.min(p, q);
            greater[bars] = Math.max(p, q);
            bars++;
            return bars - 1;
        }

        void dropBar(int place) {
            for (int i = place; i + 1 < bars; i++) {
                lesser[i] = lesser[i + 1];
                greater[i] = greater[i + 1];
            }
            bars--;
        }

        int placeOf(int p, int q) {
            int low = Math.min(p, q);
            int high = Math.max(p, q);
            for (int place = 0; place < bars; place++) {
                if (lesser[place] == low && greater[place] == high) {
                    return place;
                }
            }
            return NONE;
        }

        /** The pins, as bits, to which bars go from a pin. */
        int neighbours(int p) {
            int near = 0;
            for (int place = 0; place < bars; place++) {
                if (lesser[place] == p) {
                    near |= 1 << greater[place];
                } else if (greater[place] == p) {
                    near |= 1 << lesser[place];
                }
            }
            return near;
        }

        int barSize(int place) {
            return letters(lesser[place]) + 1 + letters(greater[place]);
        }

        int barLetter(int place, int i) {
            int ahead = letters(lesser[place]);
            if (i < ahead) {
                return letter(lesser[place], i);
            }
            return i == ahead ? DASH : letter(greater[place], i - ahead - 1);
        }

        void takeFrom(Frame other) {
            pins = other.pins;
            bars = other.bars;
            System.arraycopy(other.names, 0, names, 0, MAX_PINS);
            System.arraycopy(other.lesser, 0, lesser, 0, MAX_BARS);
            System.arraycopy(other.greater, 0, greater, 0, MAX_BARS);
        }
    }

    /** The bytes that were fed, read word by word. */
    private static final class Tape {
        final int[] bytes = new int[MAX_BYTES];
        int size = 0;
        /** Where the word that was read last begins (the tape's size, if there was none), and what is behind it. */
        int start = 0;
        int behind = 0;

        void add(int value) {
            if (size < MAX_BYTES) {
                bytes[size] = value;
                size++;
            }
        }

        void empty() {
            size = 0;
        }

        /** The first word; told as by nextWord(). */
        int firstWord() {
            behind = 0;
            return nextWord();
        }

        /** The next word as one number, as names are; NONE if none begins there or it has too many letters. */
        int nextWord() {
            start = behind;
            while (start < size && bytes[start] == BLANK) {
                start++;
            }
            behind = start;
            while (behind < size && bytes[behind] >= 'a' && bytes[behind] <= 'z') {
                behind++;
            }
            if (behind == start || behind - start > MAX_LETTERS) {
                return NONE;
            }
            int word = 0;
            for (int i = start; i < behind; i++) {
                word = word << 8 | bytes[i];
            }
            return word;
        }

        boolean endsNext() {
            nextWord();
            return start == size;
        }

        /** All the bytes as one word; NONE if they are none. */
        int wholeWord() {
            int word = firstWord();
            return start == 0 && behind == size ? word : NONE;
        }
    }

    /** A row of numbers of a sort; of the sort NONE it is missing. */
    private static final class Sheet {
        int sort = NONE;
        int size = 0;
        final int[] items = new int[MAX_ITEMS];

        boolean isMissing() {
            return sort == NONE;
        }

        void become(int newSort, int newSize) {
            sort = newSort;
            size = newSize;
            for (int i = 0; i < MAX_ITEMS; i++) {
                items[i] = 0;
            }
        }

        boolean has(int i) {
            return i >= 0 && i < size;
        }

        boolean hasRun(int i, int n) {
            return i >= 0 && n >= 0 && i <= size && n <= size - i;
        }

        void write(int i, int value) {
            if (has(i)) {
                items[i] = sort == BYTES ? value & 255 : value;
            }
        }

        int tellsCarrying(int i) {
            return has(i) && items[i] == 1 ? 1 : 0;
        }
    }

    /** Two pebbles at each pin, each free or laid on a bar that begins there. */
    private static final class Pebbles {
        /** By pebbles (those of pin p are 2 p and 2 p + 1): the far end of its bar, or NONE: it is free. */
        private final int[] farEnd = new int[2 * MAX_PINS];
        private final int[] queue = new int[MAX_PINS];
        /** By pins: the pebble of the bar along which the search came. */
        private final int[] cameAlong = new int[MAX_PINS];

        void freeAll() {
            for (int i = 0; i < farEnd.length; i++) {
                farEnd[i] = NONE;
            }
        }

        /** Lays a pebble on a bar of which wouldCarry() has just told that it carries: the pebble is free then. */
        void lay(int p, int q) {
            farEnd[2 * p] = q;
        }

        /** Leaves all four pebbles of both pins free, if a bar between them would carry. */
        boolean wouldCarry(int p, int q) {
            for (int i = 0; i < 4 && countFree(p) + countFree(q) < 4; i++) {
                if (!bring(p, q) && !bring(q, p)) {
                    return false;
                }
            }
            return countFree(p) + countFree(q) == 4;
        }

        private int countFree(int p) {
            return (farEnd[2 * p] == NONE ? 1 : 0) + (farEnd[2 * p + 1] == NONE ? 1 : 0);
        }

        private int freePebble(int p) {
            return farEnd[2 * p] == NONE ? 2 * p : farEnd[2 * p + 1] == NONE ? 2 * p + 1 : NONE;
        }

        /** Brings one free pebble more to a pin, by no way through the pin that is shut; tells whether it could. */
        private boolean bring(int to, int shut) {
            int seen = 1 << to | 1 << shut;
            int count = 1;
            queue[0] = to;
            for (int at = 0; at < count && at < MAX_PINS; at++) {
                for (int pebble = 2 * queue[at]; pebble <= 2 * queue[at] + 1; pebble++) {
                    int next = farEnd[pebble];
                    if (next == NONE || (seen >> next & 1) == 1) {
                        continue;
                    }
                    cameAlong[next] = pebble;
                    int free = freePebble(next);
                    if (free != NONE) {
                        turnRound(to, next, free);
                        return true;
                    }
                    seen |= 1 << next;
                    if (count < MAX_PINS) {
                        queue[count] = next;
                        count++;
                    }
                }
            }
            return false;
        }

        /** Turns round the bars of the way found: the far pin's free pebble is laid, one of the near pin's becomes free. */
        private void turnRound(int near, int far, int farPebble) {
            int pin = far;
            int free = farPebble;
            for (int i = 0; i < MAX_PINS && pin != near; i++) {
                int pebble = cameAlong[pin];
                pin = pebble / 2;
                farEnd[free] = pin;
                farEnd[pebble] = NONE;
                free = pebble;
            }
        }
    }

    /** What follows from a frame's bars; the rows are kept to be used again. */
    private static final class Study {
        private final Pebbles pebbles = new Pebbles();
        private final int[] near = new int[MAX_PINS];
        private final int[] tiedTo = new int[MAX_PINS];
        final int[] parts = new int[MAX_BARS];
        int partCount = 0;
        /** By places, as bits: which bars carry. */
        int carrying = 0;
        int rank = 0;
        int freedoms = 0;
        boolean isStiff = false;
        int worstBy = 0;
        int worstPins = 0;

        /** Counts the frame as it is, and leaves the pebbles laid for all its bars. */
        void settle(Frame frame) {
            carrying = carryingWithLast(frame, frame.bars - 1);
            rank = Integer.bitCount(carrying);
            freedoms = 2 * frame.pins - rank;
            isStiff = frame.pins >= 2 && freedoms == 3;
        }

        /** By the places that they would have: which bars carry, if one were the last instead. */
        int carryingWithLast(Frame frame, int last) {
            pebbles.freeAll();
            int bits = 0;
            for (int at = 0; at < frame.bars; at++) {
                int place = at == frame.bars - 1 ? last : at < last ? at : at + 1;
                int p = frame.lesser[place];
                int q = frame.greater[place];
                if (pebbles.wouldCarry(p, q)) {
                    pebbles.lay(p, q);
                    bits |= 1 << at;
                }
            }
            return bits;
        }

        /** As the last one a bar carries just if the rank were less without it. */
        boolean isOvertied(Frame frame, int place) {
            return (carryingWithLast(frame, place) >> frame.bars - 1 & 1) == 0;
        }

        int countOvertied(Frame frame) {
            int count = 0;
            for (int place = 0; place < frame.bars; place++) {
                if (isOvertied(frame, place)) {
                    count++;
                }
            }
            return count;
        }

        int freedomsWithout(Frame frame, int place) {
            int others = carryingWithLast(frame, place) & (1 << frame.bars - 1) - 1;
            return 2 * frame.pins - Integer.bitCount(others);
        }

        /** Of the settled frame. */
        boolean isTied(int p, int q) {
            return !pebbles.wouldCarry(p, q);
        }

        /** Finds the parts of the settled frame, in their order. */
        void findParts(int pins) {
            findTies(pins);
            partCount = 0;
            for (int p = 0; p < pins; p++) {
                for (int q = p + 1; q < pins; q++) {
                    // Pins tied to two tied ones are tied to each other: the pair has one part alone.
                    int both = 1 << p | 1 << q;
                    int part = tiedTo[p] & tiedTo[q] | both;
                    boolean isLeastPair = (part & (1 << q) - 1) == 1 << p;
                    if ((tiedTo[p] >> q & 1) == 1 && isLeastPair && partCount < parts.length) {
                        parts[partCount] = part;
                        partCount++;
                    }
                }
            }
        }

        private void findTies(int pins) {
            for (int p = 0; p < pins; p++) {
                tiedTo[p] = 0;
            }
            for (int p = 0; p < pins; p++) {
                for (int q = p + 1; q < pins; q++) {
                    if (!pebbles.wouldCarry(p, q)) {
                        tiedTo[p] |= 1 << q;
                        tiedTo[q] |= 1 << p;
                    }
                }
            }
        }

        int countPartsOf(int p) {
            int count = 0;
            for (int i = 0; i < partCount; i++) {
                count += parts[i] >> p & 1;
            }
            return count;
        }

        /** Of an extra bar of the settled frame. */
        int ringOf(Frame frame, int place) {
            int ring = 1 << place;
            for (int left = 0; left < place; left++) {
                boolean carries = (carrying >> left & 1) == 1;
                if (carries && wouldCarryBehind(frame, place, carrying & ~(1 << left))) {
                    ring |= 1 << left;
                }
            }
            return ring;
        }

        /** The others are some of the bars that carry, so each of them carries. */
        private boolean wouldCarryBehind(Frame frame, int place, int others) {
            pebbles.freeAll();
            for (int ahead = 0; ahead < place; ahead++) {
                boolean isThere = (others >> ahead & 1) == 1;
                if (isThere && pebbles.wouldCarry(frame.lesser[ahead], frame.greater[ahead])) {
                    pebbles.lay(frame.lesser[ahead], frame.greater[ahead]);
                }
            }
            return pebbles.wouldCarry(frame.lesser[place], frame.greater[place]);
        }

        /** Goes through all sets of pins so that from one to the next a single pin comes or goes. */
        void seekWorst(Frame frame) {
            for (int p = 0; p < frame.pins; p++) {
                near[p] = frame.neighbours(p);
            }
            worstPins = 0;
            int set = 0;
            int between = 0;
            for (int step = 1; step < 1 << frame.pins; step++) {
                int pin = leastBit(step);
                int joined = Integer.bitCount(near[pin] & set);
                set ^= 1 << pin;
                between += (set >> pin & 1) == 1 ? joined : -joined;
                if (Integer.bitCount(set) >= 2) {
                    weigh(set, between - (2 * Integer.bitCount(set) - 3));
                }
            }
        }

        private static int leastBit(int step) {
            int bit = 0;
            while (bit < MAX_PINS - 1 && (step >> bit & 1) == 0) {
                bit++;
            }
            return bit;
        }

        private void weigh(int set, int by) {
            int fewer = Integer.bitCount(worstPins) - Integer.bitCount(set);
            boolean isWorse = by > worstBy
                    || by == worstBy && (fewer > 0 || fewer == 0 && set < worstPins);
            if (worstPins == 0 || isWorse) {
                worstPins = set;
                worstBy = by;
            }
        }

        /** Of the settled frame: the pair that comes as the i-th; with i NONE, how many come. */
        int lackingAt(int pins, int i) {
            int count = 0;
            for (int p = 0; p < pins; p++) {
                for (int q = p + 1; q < pins; q++) {
                    if (pebbles.wouldCarry(p, q)) {
                        if (count == i) {
                            return PAIR * p + q;
                        }
                        pebbles.lay(p, q);
                        count++;
                    }
                }
            }
            return i == NONE ? count : OUTSIDE;
        }
    }

    /** Takes a stiff frame without extra bars down, pin by pin. */
    private static final class TakeDown {
        private final Pebbles pebbles = new Pebbles();
        private final int[] near = new int[MAX_PINS];
        int steps = 0;
        final int[] gone = new int[MAX_PINS];
        final int[] had = new int[MAX_PINS];
        final int[] came = new int[MAX_PINS];

        void run(Frame frame) {
            for (int p = 0; p < MAX_PINS; p++) {
                near[p] = p < frame.pins ? frame.neighbours(p) : 0;
            }
            steps = 0;
            for (int left = frame.pins; left >= 3; left--) {
                takeOne();
            }
        }

        private void takeOne() {
            int pin = firstOf(2);
            if (pin == NONE) {
                pin = firstOf(3);
            }
            if (pin == NONE || steps >= MAX_PINS) {
                return;
            }
            int ends = near[pin];
            gone[steps] = pin;
            had[steps] = Integer.bitCount(ends);
            takeAway(pin);
            came[steps] = NONE;
            if (had[steps] == 3) {
                layAll();
                came[steps] = joinFirstOf(ends);
            }
            steps++;
        }

        private int firstOf(int bars) {
            for (int p = 0; p < MAX_PINS; p++) {
                if (Integer.bitCount(near[p]) == bars) {
                    return p;
                }
            }
            return NONE;
        }

        private void takeAway(int pin) {
            near[pin] = 0;
            for (int p = 0; p < MAX_PINS; p++) {
                near[p] &= ~(1 << pin);
            }
        }

        /** What is left carries: one bar more leaves it stiff just if that carries, too. */
        private int joinFirstOf(int ends) {
            for (int p = 0; p < MAX_PINS; p++) {
                for (int q = p + 1; q < MAX_PINS; q++) {
                    boolean areEnds = (ends >> p & 1) == 1 && (ends >> q & 1) == 1;
                    if (areEnds && (near[p] >> q & 1) == 0 && pebbles.wouldCarry(p, q)) {
                        near[p] |= 1 << q;
                        near[q] |= 1 << p;
                        return PAIR * p + q;
                    }
                }
            }
            return NONE;
        }

        private void layAll() {
            pebbles.freeAll();
            for (int p = 0; p < MAX_PINS; p++) {
                for (int q = p + 1; q < MAX_PINS; q++) {
                    if ((near[p] >> q & 1) == 1 && pebbles.wouldCarry(p, q)) {
                        pebbles.lay(p, q);
                    }
                }
            }
        }
    }
}
