import java.util.ArrayList;
import java.util.Arrays;
import java.util.List;

/** The document's words again, told as plainly as can be (every set of pins is gone through), to compare with. */
final class PlainDesk {
    private static final int NONE = -1, BAD = -2, STATE = -3, FULL = -4;

    /** A bar: its lesser pin, its greater one. */
    record Bar(int p, int q) {
        static Bar of(int p, int q) {
            return new Bar(Math.min(p, q), Math.max(p, q));
        }
    }

    private List<String> names = new ArrayList<>();
    private List<Bar> bars = new ArrayList<>();
    private List<String> keptNames = null;
    private List<Bar> keptBars = null;
    private final StringBuilder tape = new StringBuilder();
    private final int[][] sheets = new int[4][];
    private final int[] sorts = new int[4];

    // ---- what the terms say

    private static boolean loose(int pins, List<Bar> some) {
        for (int set = 0; set < 1 << pins; set++) {
            int k = Integer.bitCount(set);
            if (k >= 2 && within(set, some) > 2 * k - 3) {
                return false;
            }
        }
        return true;
    }

    private static int within(int set, List<Bar> some) {
        int count = 0;
        for (Bar b : some) {
            if ((set >> b.p & 1) == 1 && (set >> b.q & 1) == 1) {
                count++;
            }
        }
        return count;
    }

    private static boolean[] carrying(int pins, List<Bar> all) {
        boolean[] answer = new boolean[all.size()];
        List<Bar> carriers = new ArrayList<>();
        for (int i = 0; i < all.size(); i++) {
            carriers.add(all.get(i));
            answer[i] = loose(pins, carriers);
            if (!answer[i]) {
                carriers.remove(carriers.size() - 1);
            }
        }
        return answer;
    }

    private static int count(boolean[] which) {
        int count = 0;
        for (boolean one : which) {
            count += one ? 1 : 0;
        }
        return count;
    }

    private static int rank(int pins, List<Bar> all) {
        return count(carrying(pins, all));
    }

    private static List<Bar> plus(List<Bar> all, Bar more) {
        List<Bar> answer = new ArrayList<>(all);
        answer.add(more);
        return answer;
    }

    private static List<Bar> minus(List<Bar> all, int place) {
        List<Bar> answer = new ArrayList<>(all);
        answer.remove(place);
        return answer;
    }

    private int freedoms() {
        return 2 * names.size() - rank(names.size(), bars);
    }

    private boolean stiff() {
        return names.size() >= 2 && freedoms() == 3;
    }

    private boolean isTied(int p, int q) {
        return !carrying(names.size(), plus(bars, Bar.of(p, q)))[bars.size()];
    }

    private List<Integer> parts() {
        int n = names.size();
        int[] ties = new int[n];
        for (int p = 0; p < n; p++) {
            for (int q = 0; q < n; q++) {
                if (p != q && isTied(p, q)) {
                    ties[p] |= 1 << q;
                }
            }
        }
        List<Integer> all = new ArrayList<>();
        for (int set = 0; set < 1 << n; set++) {
            if (Integer.bitCount(set) >= 2 && allTied(set, ties)) {
                all.add(set);
            }
        }
        List<Integer> most = new ArrayList<>();
        for (int set : all) {
            boolean isMost = true;
            for (int other : all) {
                isMost &= other == set || (other & set) != set;
            }
            if (isMost) {
                most.add(set);
            }
        }
        most.sort((a, b) -> leastTwo(a) - leastTwo(b));
        return most;
    }

    private static boolean allTied(int set, int[] ties) {
        for (int p = 0; p < ties.length; p++) {
            if ((set >> p & 1) == 1 && (set & ~(1 << p) & ~ties[p]) != 0) {
                return false;
            }
        }
        return true;
    }

    private static int leastTwo(int set) {
        int least = Integer.numberOfTrailingZeros(set);
        return 100 * least + Integer.numberOfTrailingZeros(set & set - 1);
    }

    private boolean overtied(int place) {
        return rank(names.size(), bars) == rank(names.size(), minus(bars, place));
    }

    // ---- texts

    int feed(int n, int... v) {
        for (int one : v) {
            if (one < 0 || one > 255) {
                return BAD;
            }
        }
        if (n < 1 || n > 5) {
            return BAD;
        }
        if (tape.length() + n > 30) {
            return FULL;
        }
        for (int i = 0; i < n; i++) {
            tape.append((char) v[i]);
        }
        return tape.length();
    }

    int text() {
        String all = tape.toString();
        tape.setLength(0);
        String verb = null;
        int first = NONE;
        int second = NONE;
        int words = 0;
        int at = 0;
        while (true) {
            while (at < all.length() && all.charAt(at) == ' ') {
                at++;
            }
            boolean isWhole = verb != null && words == (verb.equals("pin") ? 2 : 3);
            if (at == all.length()) {
                return isWhole ? doText(verb, all, first, second) : -100 - at;
            }
            int end = at;
            while (end < all.length() && Character.toString(all.charAt(end)).matches("[a-z]")) {
                end++;
            }
            String word = all.substring(at, end);
            if (isWhole || !word.matches("[a-z]{1,4}")) {
                return -100 - at;
            }
            int who = names.indexOf(word);
            boolean fits;
            if (words == 0) {
                fits = Arrays.asList("pin", "bar", "off").contains(word);
                verb = word;
            } else if (verb.equals("pin")) {
                fits = who < 0 && !Arrays.asList("pin", "bar", "off").contains(word);
            } else {
                fits = who >= 0 && who != first;
                second = first == NONE ? NONE : who;
                first = first == NONE ? who : first;
            }
            if (!fits) {
                return -100 - at;
            }
            words++;
            at = end;
        }
    }

    private int doText(String verb, String all, int p, int q) {
        switch (verb) {
            case "pin":
                if (names.size() == 12) {
                    return FULL;
                }
                names.add(all.trim().split(" +")[1]);
                return names.size() - 1;
            case "bar":
                return bar(p, q);
            default:
                return off(p, q);
        }
    }

    int named() {
        int who = names.indexOf(tape.toString());
        tape.setLength(0);
        return who;
    }

    // ---- bars

    private boolean badPins(int p, int q) {
        return p < 0 || q < 0 || p >= names.size() || q >= names.size() || p == q;
    }

    int bar(int p, int q) {
        if (badPins(p, q)) {
            return BAD;
        }
        if (bars.contains(Bar.of(p, q))) {
            return STATE;
        }
        if (bars.size() == 24) {
            return FULL;
        }
        bars.add(Bar.of(p, q));
        return bars.size() - 1;
    }

    int off(int p, int q) {
        if (badPins(p, q)) {
            return BAD;
        }
        int place = bars.indexOf(Bar.of(p, q));
        if (place < 0) {
            return STATE;
        }
        bars.remove(place);
        return place;
    }

    int told(int what) {
        int overtied = 0;
        if (what == 7) {
            for (int place = 0; place < bars.size(); place++) {
                overtied += overtied(place) ? 1 : 0;
            }
        }
        return switch (what) {
            case 0 -> names.size();
            case 1 -> bars.size();
            case 2 -> rank(names.size(), bars);
            case 3 -> freedoms();
            case 4 -> stiff() ? 1 : 0;
            case 5 -> bars.size() - rank(names.size(), bars);
            case 6 -> parts().size();
            case 7 -> overtied;
            case 8 -> tape.length();
            default -> BAD;
        };
    }

    int barAt(int place, int what) {
        if (what < 0 || what > 3) {
            return BAD;
        }
        if (place < 0 || place >= bars.size()) {
            return -12;
        }
        return switch (what) {
            case 0 -> bars.get(place).p;
            case 1 -> bars.get(place).q;
            case 2 -> carrying(names.size(), bars)[place] ? 1 : 0;
            default -> overtied(place) ? 1 : 0;
        };
    }

    int pin(int p, int what) {
        if (p < 0 || p >= names.size() || what < 0 || what > 13 || what > 3 && what < 10) {
            return BAD;
        }
        int with = 0;
        for (Bar b : bars) {
            with |= b.p == p ? 1 << b.q : b.q == p ? 1 << b.p : 0;
        }
        int ofParts = 0;
        for (int part : what == 2 ? parts() : new ArrayList<Integer>()) {
            ofParts += part >> p & 1;
        }
        String name = names.get(p);
        return switch (what) {
            case 0 -> Integer.bitCount(with);
            case 1 -> with;
            case 2 -> ofParts;
            case 3 -> name.length();
            default -> what - 10 < name.length() ? name.charAt(what - 10) : NONE;
        };
    }

    int between(int p, int q) {
        return badPins(p, q) ? BAD : bars.indexOf(Bar.of(p, q));
    }

    // ---- rigid parts

    int tied(int p, int q) {
        return badPins(p, q) ? BAD : isTied(p, q) ? 1 : 0;
    }

    int part(int i) {
        List<Integer> all = parts();
        return i < 0 || i >= all.size() ? -12 : all.get(i);
    }

    int ring(int place) {
        if (place < 0 || place >= bars.size()) {
            return -12;
        }
        boolean[] carrying = carrying(names.size(), bars);
        if (carrying[place]) {
            return STATE;
        }
        int answer = 1 << place;
        for (int left = 0; left < place; left++) {
            List<Bar> others = new ArrayList<>();
            for (int i = 0; i < place; i++) {
                if (carrying[i] && i != left) {
                    others.add(bars.get(i));
                }
            }
            if (carrying[left] && loose(names.size(), plus(others, bars.get(place)))) {
                answer |= 1 << left;
            }
        }
        return answer;
    }

    int worst(int what) {
        if (what < 0 || what > 1) {
            return BAD;
        }
        if (names.size() < 2) {
            return STATE;
        }
        int most = Integer.MIN_VALUE;
        int which = 0;
        for (int k = 2; k <= names.size(); k++) {
            for (int set = 0; set < 1 << names.size(); set++) {
                int by = within(set, bars) - (2 * k - 3);
                if (Integer.bitCount(set) == k && by > most) {
                    most = by;
                    which = set;
                }
            }
        }
        return what == 0 ? 1000 + most : which;
    }

    // ---- what would be

    int without(int place) {
        if (place < 0 || place >= bars.size()) {
            return -12;
        }
        return 2 * names.size() - rank(names.size(), minus(bars, place));
    }

    int with(int p, int q) {
        if (badPins(p, q)) {
            return BAD;
        }
        List<Bar> then = bars.contains(Bar.of(p, q)) ? bars : plus(bars, Bar.of(p, q));
        return 2 * names.size() - rank(names.size(), then);
    }

    int lacking(int i) {
        List<Integer> all = new ArrayList<>();
        List<Bar> then = bars;
        int n = names.size();
        for (int p = 0; p < n; p++) {
            for (int q = p + 1; q < n; q++) {
                boolean isStiff = 2 * n - rank(n, then) == 3;
                if (!isStiff && carrying(n, plus(then, Bar.of(p, q)))[then.size()]) {
                    then = plus(then, Bar.of(p, q));
                    all.add(100 * p + q);
                }
            }
        }
        return i == NONE ? all.size() : i < 0 || i >= all.size() ? -12 : all.get(i);
    }

    int down(int i, int what) {
        if (what < 0 || what > 2) {
            return BAD;
        }
        if (!stiff() || rank(names.size(), bars) != bars.size()) {
            return STATE;
        }
        List<int[]> steps = takenDown();
        return i < 0 || i >= steps.size() ? -12 : steps.get(i)[what];
    }

    /** Of a stiff frame without extra bars: what each step answers. */
    List<int[]> takenDown() {
        List<int[]> steps = new ArrayList<>();
        List<Integer> left = new ArrayList<>();
        for (int p = 0; p < names.size(); p++) {
            left.add(p);
        }
        List<Bar> there = new ArrayList<>(bars);
        while (left.size() >= 3) {
            steps.add(takeOne(left, there));
        }
        return steps;
    }

    private int[] takeOne(List<Integer> left, List<Bar> there) {
        for (int size = 2; size <= 3; size++) {
            for (int pin : left) {
                List<Integer> ends = new ArrayList<>();
                for (Bar b : there) {
                    if (b.p == pin || b.q == pin) {
                        ends.add(b.p == pin ? b.q : b.p);
                    }
                }
                if (ends.size() == size) {
                    left.remove(Integer.valueOf(pin));
                    there.removeIf(b -> b.p == pin || b.q == pin);
                    ends.sort(null);
                    return new int[] {pin, size, size == 2 ? NONE : join(left, there, ends)};
                }
            }
        }
        throw new IllegalStateException("no pin of two or three bars");
    }

    private int join(List<Integer> left, List<Bar> there, List<Integer> ends) {
        int[][] pairs = {{0, 1}, {0, 2}, {1, 2}};
        for (int[] pair : pairs) {
            Bar more = Bar.of(ends.get(pair[0]), ends.get(pair[1]));
            List<Bar> then = plus(there, more);
            boolean isStiff = 2 * left.size() - rank(names.size(), then) == 3;
            if (!there.contains(more) && isStiff && rank(names.size(), then) == then.size()) {
                there.add(more);
                return 100 * more.p + more.q;
            }
        }
        throw new IllegalStateException("no pair");
    }

    int line(int i) {
        List<String> all = new ArrayList<>();
        for (Bar b : bars) {
            all.add(names.get(b.p) + "-" + names.get(b.q));
        }
        String line = String.join(" ", all);
        return i == NONE ? line.length() : i < 0 || i >= line.length() ? NONE : line.charAt(i);
    }

    // ---- what was told

    private int firstOtherwise(int[] row, boolean[] carrying) {
        for (int i = 0; i < row.length; i++) {
            if (i >= carrying.length || (row[i] == 1) != carrying[i]) {
                return i;
            }
        }
        return row.length < carrying.length ? row.length : NONE;
    }

    int tells(int sheet, int what) {
        if (sheet < 0 || sheet > 3 || what < 0 || what > 1) {
            return BAD;
        }
        if (sheets[sheet] == null) {
            return -11;
        }
        if (sheets[sheet].length > 24) {
            return BAD;
        }
        if (what == 0) {
            return firstOtherwise(sheets[sheet], carrying(names.size(), bars));
        }
        int answer = 0;
        for (int place = 0; place < bars.size(); place++) {
            List<Bar> then = plus(minus(bars, place), bars.get(place));
            if (firstOtherwise(sheets[sheet], carrying(names.size(), then)) == NONE) {
                answer |= 1 << place;
            }
        }
        return answer;
    }

    int film(int sheet) {
        if (sheet < 0 || sheet > 3) {
            return BAD;
        }
        boolean[] carrying = carrying(names.size(), bars);
        sheets[sheet] = new int[carrying.length];
        sorts[sheet] = 0;
        for (int i = 0; i < carrying.length; i++) {
            sheets[sheet][i] = carrying[i] ? 1 : 0;
        }
        return carrying.length;
    }

    int image() {
        keptNames = new ArrayList<>(names);
        keptBars = new ArrayList<>(bars);
        return names.size();
    }

    int back() {
        if (keptNames == null) {
            return STATE;
        }
        names = new ArrayList<>(keptNames);
        bars = new ArrayList<>(keptBars);
        return names.size();
    }

    // ---- the host

    int sheet(int sheet, int sort, int n) {
        if (sheet < 0 || sheet > 3 || sort < -1 || sort > 1 || sort != -1 && n > 40) {
            return BAD;
        }
        if (sort != -1 && n < 0) {
            return -14;
        }
        sheets[sheet] = sort == -1 ? null : new int[n];
        sorts[sheet] = sort;
        return 1;
    }

    int put(int sheet, int i, int v) {
        if (sheet < 0 || sheet > 3) {
            return BAD;
        }
        if (sheets[sheet] == null) {
            return -11;
        }
        if (i < 0 || i >= sheets[sheet].length) {
            return -12;
        }
        sheets[sheet][i] = sorts[sheet] == 0 ? (byte) v : v;
        return 1;
    }

    int copy(int sheet, int i, int other, int j, int n) {
        if (sheet < 0 || sheet > 3 || other < 0 || other > 3) {
            return BAD;
        }
        if (sheets[sheet] == null || sheets[other] == null) {
            return -11;
        }
        if (sorts[sheet] != sorts[other]) {
            return -13;
        }
        if (i < 0 || j < 0 || n < 0 || (long) i + n > sheets[sheet].length || (long) j + n > sheets[other].length) {
            return -12;
        }
        int[] were = Arrays.copyOfRange(sheets[sheet], i, i + n);
        for (int k = 0; k < n; k++) {
            sheets[other][j + k] = were[k];
        }
        return n;
    }

    int load(int sheet, int sort, int from, int n) {
        if (sheet < 0 || sheet > 3 || sort < 0 || sort > 1 || n < 0 || n > 24) {
            return BAD;
        }
        if (sheets[sheet] != null && sorts[sheet] != sort) {
            return -13;
        }
        if (sheets[sheet] == null) {
            return -11;
        }
        int came = 0;
        for (long at = from; at < from + 2L * n; at += 2) {
            if (at < 0 || at + 1 >= sheets[sheet].length) {
                return -12;
            }
            came += bar(sheets[sheet][(int) at], sheets[sheet][(int) at + 1]) >= 0 ? 1 : 0;
        }
        return came;
    }
}
