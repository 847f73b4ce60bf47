import java.util.ArrayList;
import java.util.HashMap;
import java.util.List;
import java.util.Map;
import java.util.TreeMap;

/**
 * The document once more, as slowly and plainly as may be, to be set beside the class: its faults
 * are those that the Java machine itself throws, its balls are objects, its rows are lists.
 */
final class Model {
    private static final int UNKNOWN = -1, OUTSIDE = -2, STATE = -3, FULL = -4, NONE = -9;
    private static final long LOST = Long.MIN_VALUE;

    private interface Called {
        int mayGo();

        default int called(Model m) {
            m.trace = m.trace * 31 + 4;
            return mayGo();
        }
    }

    private static class Ball implements Called {
        final int number;

        Ball(int number) {
            this.number = number;
        }

        public int mayGo() {
            return 9;
        }

        int told(Model m) {
            return toldByBall(m);
        }

        final int toldByBall(Model m) {
            m.trace = m.trace * 31 + 1;
            return number;
        }
    }

    private static class Heavy extends Ball {
        Heavy(int number) {
            super(number);
        }

        @Override public int mayGo() {
            return 6;
        }

        @Override int told(Model m) {
            m.trace = m.trace * 31 + 2;
            return super.told(m) + 100;
        }
    }

    private static final class Egg extends Heavy {
        Egg(int number) {
            super(number);
        }

        @Override public int mayGo() {
            return 4;
        }

        @Override int told(Model m) {
            m.trace = m.trace * 31 + 3;
            int heavy = super.told(m);
            return heavy + toldByBall(m);
        }

        @Override public int called(Model m) {
            m.trace = m.trace * 31 + 5;
            return 70;
        }
    }

    private static final Map<String, Object> KNOWN = new HashMap<>();

    private List<Integer> row = List.of();
    private final List<List<Integer>> images = new ArrayList<>(List.of(List.of(), List.of(), List.of()));
    private final Object[] sheets = new Object[4];
    private final Ball[] balls = new Ball[10];
    private int hands;
    private int dropped;
    private int trace;
    private int fault;

    Model() {
        for (int k = 0; k < 10; k++) {
            balls[k] = new Ball(k);
        }
    }

    // ---- 1

    int pattern(int sheet, int sort, int i, int n) {
        fault = 0;
        if (sheet < 0 || sheet > 3) {
            return UNKNOWN;
        }
        if (sort < 0 || sort > 2) {
            return OUTSIDE;
        }
        int[] codes = cellsOf(sheet, sort, i, n);
        if (codes == null) {
            return -10 - fault;
        }
        List<Integer> told = new ArrayList<>();
        for (int code : codes) {
            if (told.size() == 8 || "0123456789".indexOf(code) < 0) {
                return -100 - told.size();
            }
            told.add(code - '0');
        }
        if (told.isEmpty()) {
            return -100;
        }
        row = told;
        hands = 2;
        dropped = 0;
        for (int k = 0; k < 10; k++) {
            balls[k] = new Ball(k);
        }
        return row.size();
    }

    /** The cells, or null and the machine's fault. */
    private int[] cellsOf(int sheet, int sort, int i, int n) {
        try {
            byte[] bytes = sort == 0 ? (byte[]) sheets[sheet] : null;
            short[] shorts = sort == 1 ? (short[]) sheets[sheet] : null;
            int[] ints = sort == 2 ? (int[]) sheets[sheet] : null;
            int length = sort == 0 ? bytes.length : sort == 1 ? shorts.length : ints.length;
            if (n > 1000) {
                throw new ArrayIndexOutOfBoundsException();
            }
            int[] cells = new int[n];
            if (i < 0 || i > length) {
                throw new ArrayIndexOutOfBoundsException();
            }
            for (int at = 0; at < n; at++) {
                cells[at] = sort == 0 ? bytes[i + at] : sort == 1 ? shorts[i + at] : ints[i + at];
            }
            return cells;
        } catch (RuntimeException thrown) {
            fault = numberOf(thrown);
            return null;
        }
    }

    private static int numberOf(RuntimeException thrown) {
        if (thrown instanceof NullPointerException) {
            return 1;
        }
        if (thrown instanceof ClassCastException || thrown instanceof ArrayStoreException) {
            return 2;
        }
        if (thrown instanceof IndexOutOfBoundsException) {
            return 3;
        }
        if (thrown instanceof NegativeArraySizeException) {
            return 4;
        }
        throw thrown;
    }

    int throwOf(int beat) {
        return beat >= 0 && beat < row.size() ? row.get(beat) : UNKNOWN;
    }

    int clash() {
        if (row.isEmpty()) {
            return STATE;
        }
        for (int i = 0; i < row.size(); i++) {
            for (int j = i + 1; j < row.size(); j++) {
                if ((i + row.get(i)) % row.size() == (j + row.get(j)) % row.size()) {
                    return 10 * i + j;
                }
            }
        }
        return NONE;
    }

    private boolean isGood() {
        return clash() == NONE;
    }

    int good(int what) {
        if (what < 0 || what > 4) {
            return OUTSIDE;
        }
        if (!isGood()) {
            return STATE;
        }
        int count = row.stream().mapToInt(height -> height).sum() / row.size();
        List<Integer> states = new ArrayList<>();
        for (int beat = 0; beat < row.size(); beat++) {
            states.add(state(beat));
        }
        switch (what) {
            case 0:
                return count;
            case 1:
                return row.stream().max(Integer::compare).get();
            case 2:
                return states.stream().distinct().count() == row.size() ? 1 : 0;
            case 3:
                return states.contains((1 << count) - 1) ? 1 : 0;
            default:
                return (int) orbits().stream().distinct().count();
        }
    }

    private int heightIn(int b) {
        return row.get(Math.floorMod(b, row.size()));
    }

    // ---- 2

    int state(int beat) {
        if (beat < 0 || beat >= row.size()) {
            return UNKNOWN;
        }
        return isGood() ? stateIn(beat) : STATE;
    }

    private int stateIn(int b) {
        int state = 0;
        for (int ahead = b - 30; ahead < b; ahead++) {
            if (heightIn(ahead) > 0 && ahead + heightIn(ahead) >= b) {
                state += 1 << ahead + heightIn(ahead) - b;
            }
        }
        return state;
    }

    /** By beats from 0 on: which BALL is thrown. */
    private int[] thrown() {
        int[] thrown = new int[1020];
        java.util.Arrays.fill(thrown, NONE);
        int next = 0;
        for (int b = 0; b < 1000; b++) {
            if (heightIn(b) == 0) {
                continue;
            }
            if (thrown[b] == NONE) {
                thrown[b] = next++;
            }
            thrown[b + heightIn(b)] = thrown[b];
        }
        return thrown;
    }

    int ball(int b) {
        if (b < 0 || b > 999) {
            return OUTSIDE;
        }
        return isGood() ? thrown()[b] : STATE;
    }

    /** By BEATS: the number of the ORBIT, by joining what hangs together until all is joined. */
    private List<Integer> orbits() {
        List<Integer> least = new ArrayList<>();
        for (int beat = 0; beat < row.size(); beat++) {
            least.add(beat);
        }
        for (int again = 0; again < 20; again++) {
            for (int beat = 0; beat < row.size(); beat++) {
                int other = (beat + row.get(beat)) % row.size();
                int both = Math.min(least.get(beat), least.get(other));
                least.set(beat, both);
                least.set(other, both);
            }
        }
        List<Integer> numbers = new ArrayList<>();
        List<Integer> leasts = least.stream().distinct().sorted().toList();
        for (int beat = 0; beat < row.size(); beat++) {
            numbers.add(leasts.indexOf(least.get(beat)));
        }
        return numbers;
    }

    int orbit(int beat) {
        if (beat < 0 || beat >= row.size()) {
            return UNKNOWN;
        }
        return isGood() ? orbits().get(beat) : STATE;
    }

    int hands(int n) {
        if (n < 1 || n > 4) {
            return OUTSIDE;
        }
        if (row.isEmpty()) {
            return STATE;
        }
        int before = hands;
        hands = n;
        return before;
    }

    int beat(int b, int what) {
        if (b < 0 || b > 999 || what < 0 || what > 2) {
            return OUTSIDE;
        }
        if (!isGood()) {
            return STATE;
        }
        if (what == 0) {
            return b % hands;
        }
        if (what == 1) {
            return heightIn(b) == 0 ? NONE : (b + heightIn(b)) % hands;
        }
        int air = 0;
        for (int ahead = b - 30; ahead < b; ahead++) {
            if (ahead + heightIn(ahead) > b) {
                air++;
            }
        }
        return air;
    }

    // ---- 3

    int swap(int i, int j) {
        if (i < 0 || j <= i || j >= row.size()) {
            return UNKNOWN;
        }
        int landingOfI = i + row.get(i);
        int landingOfJ = j + row.get(j);
        List<Integer> swapped = new ArrayList<>(row);
        swapped.set(i, landingOfJ - i);
        swapped.set(j, landingOfI - j);
        if (swapped.stream().anyMatch(height -> height < 0)) {
            return STATE;
        }
        if (swapped.stream().anyMatch(height -> height > 9)) {
            return FULL;
        }
        row = swapped;
        return 1;
    }

    private static List<Integer> turned(List<Integer> row, int k) {
        List<Integer> turned = new ArrayList<>(row);
        for (int time = 0; time < k; time++) {
            turned.add(turned.remove(0));
        }
        return turned;
    }

    int turn(int k) {
        if (k < 0 || k > 7) {
            return OUTSIDE;
        }
        if (row.isEmpty()) {
            return STATE;
        }
        row = turned(row, k);
        return row.get(0);
    }

    int backward() {
        if (!isGood()) {
            return STATE;
        }
        int n = row.size();
        List<Integer> backward = new ArrayList<>();
        for (int beat = 0; beat < n; beat++) {
            for (int i = 0; i < n; i++) {
                if ((i + row.get(i)) % n == n - 1 - beat) {
                    backward.add(row.get(i));
                }
            }
        }
        row = backward;
        return row.get(0);
    }

    private static String textOf(List<Integer> row) {
        StringBuilder text = new StringBuilder();
        row.forEach(text::append);
        return text.toString();
    }

    int greatest(int beat) {
        if (beat < 0 || beat >= row.size()) {
            return UNKNOWN;
        }
        String best = "";
        for (int k = 0; k < row.size(); k++) {
            String text = textOf(turned(row, k));
            if (text.compareTo(best) > 0) {
                best = text;
            }
        }
        return best.charAt(beat) - '0';
    }

    int keep(int i) {
        if (i < 0 || i > 2) {
            return UNKNOWN;
        }
        if (row.isEmpty()) {
            return STATE;
        }
        images.set(i, List.copyOf(row));
        return 1;
    }

    int back(int i) {
        if (i < 0 || i > 2) {
            return UNKNOWN;
        }
        if (images.get(i).isEmpty()) {
            return STATE;
        }
        row = images.get(i);
        return row.size();
    }

    int like(int i) {
        if (i < 0 || i > 2) {
            return UNKNOWN;
        }
        if (images.get(i).isEmpty() || row.isEmpty()) {
            return STATE;
        }
        for (int k = 0; k < 8; k++) {
            if (turned(images.get(i), k).equals(row)) {
                return 1;
            }
        }
        return 0;
    }

    // ---- 4

    long howMany(int period, int balls, int top) {
        if (period < 1 || period > 8 || balls < 0 || balls > 9 || top < 0 || top > 9) {
            return LOST;
        }
        int[] open = new int[period];
        java.util.Arrays.fill(open, -1);
        return fillings(open, balls, top).many;
    }

    private static final class Found {
        long many;
        int[] first;
    }

    private static Found fillings(int[] told, int balls, int top) {
        String key = java.util.Arrays.toString(told) + balls + " " + top;
        return (Found) KNOWN.computeIfAbsent(key, unknown -> {
            Found found = new Found();
            fill(told, new int[told.length], 0, balls * told.length, top, found);
            return found;
        });
    }

    private static void fill(int[] told, int[] made, int beat, int left, int top, Found found) {
        int n = told.length;
        if (left < 0 || left > (n - beat) * 9) {
            return;
        }
        if (beat == n) {
            found.many++;
            found.first = found.first == null ? made.clone() : found.first;
            return;
        }
        for (int height = 0; height <= top; height++) {
            boolean clashes = told[beat] != -1 && told[beat] != height;
            for (int i = 0; i < beat; i++) {
                clashes |= (i + made[i]) % n == (beat + height) % n;
            }
            if (!clashes) {
                made[beat] = height;
                fill(told, made, beat + 1, left - height, top, found);
            }
        }
    }

    int way(int from, int to, int top, int q) {
        if (from < 0 || from > 511 || to < 0 || to > 511 || top < 0 || top > 9
                || Integer.bitCount(from) != Integer.bitCount(to)) {
            return OUTSIDE;
        }
        if (q < -1) {
            return UNKNOWN;
        }
        String row = (String) KNOWN.computeIfAbsent(from + " " + to + " " + top, unknown -> wayOf(from, to, top));
        if (row.equals("none")) {
            return NONE;
        }
        return q == -1 ? row.length() : q < row.length() ? row.charAt(q) - '0' : NONE;
    }

    /** Beat by beat: all states that can be come to, each with the first row that leads there. */
    private static String wayOf(int from, int to, int top) {
        Map<Integer, String> rows = new TreeMap<>(Map.of(from, ""));
        for (int beats = 0; beats < 600; beats++) {
            if (rows.containsKey(to)) {
                return rows.get(to);
            }
            Map<Integer, String> next = new TreeMap<>();
            for (Map.Entry<Integer, String> entry : rows.entrySet()) {
                int state = entry.getKey();
                if (state % 2 == 0) {
                    reach(next, state / 2, entry.getValue() + "0");
                    continue;
                }
                for (int k = 1; k <= top; k++) {
                    if ((state & 1 << k) == 0) {
                        reach(next, (state - 1 + (1 << k)) / 2, entry.getValue() + k);
                    }
                }
            }
            rows = next;
        }
        return "none";
    }

    private static void reach(Map<Integer, String> rows, int state, String row) {
        String known = rows.get(state);
        if (known == null || row.compareTo(known) < 0) {
            rows.put(state, row);
        }
    }

    long filled(int sheet, int sort, int i, int n, int balls, int q) {
        fault = 0;
        if (sheet < 0 || sheet > 3 || sort < 0 || sort > 2 || balls < 0 || balls > 9) {
            return LOST;
        }
        int[] told = cellsOf(sheet, sort, i, n);
        if (told == null || n < 1 || n > 8) {
            return LOST;
        }
        for (int height : told) {
            if (height < -1 || height > 9) {
                return LOST;
            }
        }
        if (q < -1 || q >= n) {
            return LOST;
        }
        Found found = fillings(told, balls, 9);
        if (q == -1) {
            return found.many;
        }
        return found.first == null ? LOST : found.first[q];
    }

    // ---- 5

    private static int kindOf(Ball ball) {
        return ball instanceof Egg ? 2 : ball instanceof Heavy ? 1 : 0;
    }

    int kind(int k, int kind) {
        if (k < 0 || k > 9) {
            return UNKNOWN;
        }
        if (kind < 0 || kind > 2) {
            return OUTSIDE;
        }
        int before = kindOf(balls[k]);
        balls[k] = kind == 0 ? new Ball(k) : kind == 1 ? new Heavy(k) : new Egg(k);
        return before;
    }

    int broken() {
        if (!isGood()) {
            return STATE;
        }
        int set = 0;
        int[] thrown = thrown();
        for (int b = 0; b < 1000; b++) {
            if (heightIn(b) > 0 && heightIn(b) > balls[thrown[b]].mayGo()) {
                set |= 1 << thrown[b];
            }
        }
        return set;
    }

    int drop(int set) {
        if (set < 0 || set > 1023) {
            return OUTSIDE;
        }
        if (row.isEmpty()) {
            return STATE;
        }
        int before = dropped;
        dropped = set;
        return before;
    }

    int empty(int last) {
        if (last < 0 || last > 999) {
            return OUTSIDE;
        }
        if (!isGood()) {
            return STATE;
        }
        int count = 0;
        int[] thrown = thrown();
        for (int b = 0; b <= last; b++) {
            if (thrown[b] != NONE && (dropped & 1 << thrown[b]) != 0) {
                count++;
            }
        }
        return count;
    }

    // ---- 6

    int sheet(int k, int sort, int n) {
        fault = 0;
        if (k < 0 || k > 3) {
            return UNKNOWN;
        }
        if (sort < 0 || sort > 2 || n > 40) {
            return OUTSIDE;
        }
        try {
            sheets[k] = sort == 0 ? new byte[n] : sort == 1 ? new short[n] : new int[n];
            return 1;
        } catch (RuntimeException thrown) {
            fault = numberOf(thrown);
            return -10 - fault;
        }
    }

    int lose(int k) {
        if (k < 0 || k > 3) {
            return UNKNOWN;
        }
        int had = sheets[k] == null ? 0 : 1;
        sheets[k] = null;
        return had;
    }

    int put(int k, int i, int v) {
        fault = 0;
        if (k < 0 || k > 3) {
            return UNKNOWN;
        }
        try {
            if (sheets[k] instanceof byte[] bytes) {
                bytes[i] = (byte) v;
            } else if (sheets[k] instanceof short[] shorts) {
                shorts[i] = (short) v;
            } else {
                ((int[]) sheets[k])[i] = v;
            }
            return 1;
        } catch (RuntimeException thrown) {
            fault = numberOf(thrown);
            return -10 - fault;
        }
    }

    long cell(int k, int i, int sort) {
        fault = 0;
        if (k < 0 || k > 3 || sort < 0 || sort > 2) {
            return LOST;
        }
        try {
            return sort == 0 ? ((byte[]) sheets[k])[i] : sort == 1 ? ((short[]) sheets[k])[i] : ((int[]) sheets[k])[i];
        } catch (RuntimeException thrown) {
            fault = numberOf(thrown);
            return LOST;
        }
    }

    int copy(int k, int i, int other, int j, int n) {
        fault = 0;
        if (k < 0 || k > 3 || other < 0 || other > 3) {
            return UNKNOWN;
        }
        try {
            System.arraycopy(sheets[k], i, sheets[other], j, n);
            return n;
        } catch (RuntimeException thrown) {
            fault = numberOf(thrown);
            return -10 - fault;
        }
    }

    int tell(int k) {
        return k < 0 || k > 9 ? UNKNOWN : balls[k].told(this);
    }

    int call(int k) {
        return k < 0 || k > 9 ? UNKNOWN : balls[k].called(this);
    }

    int as(int k, int kind) {
        fault = 0;
        if (k < 0 || k > 9) {
            return UNKNOWN;
        }
        if (kind < 0 || kind > 2) {
            return OUTSIDE;
        }
        try {
            Ball taken = kind == 0 ? balls[k] : kind == 1 ? (Heavy) balls[k] : (Egg) balls[k];
            return taken == null ? 0 : 1;
        } catch (RuntimeException thrown) {
            fault = numberOf(thrown);
            return -10 - fault;
        }
    }

    int trace() {
        return trace;
    }

    int fault() {
        return fault;
    }

    int many(int what) {
        switch (what) {
            case 0:
                return row.size();
            case 1:
                return hands;
            case 2:
                return (int) images.stream().filter(image -> !image.isEmpty()).count();
            default:
                return OUTSIDE;
        }
    }
}
