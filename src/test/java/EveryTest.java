import java.util.ArrayList;
import java.util.Arrays;
import java.util.List;
import java.util.TreeMap;
import java.util.TreeSet;

/**
 * Not some inputs but all of them, where there are few enough: every GOOD PATTERN of up to 6 BEATS,
 * every text of up to 4, every HOW MANY, every WAY, every row with open THROWS of up to 3 BEATS.
 */
public final class EveryTest {
    private static final int ASKED_BEATS = 6, COUNTED_BEATS = 8, TEXT_BEATS = 4, OPEN_BEATS = 3;
    private static final int[] MAY_GO = {9, 6, 4};
    private static final Due due = new Due();

    // how many GOOD PATTERNS there are by PERIOD, BALLS, greatest THROW
    private static final long[][][] counts = new long[COUNTED_BEATS + 1][10][10];
    private static int asked;

    public static void main(String[] args) {
        for (int n = 1; n <= COUNTED_BEATS; n++) {
            eachGood(new int[n], 0);
        }
        everyHowMany();
        for (int n = 1; n <= TEXT_BEATS; n++) {
            everyText(n);
        }
        for (int n = 1; n <= OPEN_BEATS; n++) {
            everyOpenRow(n);
        }
        for (int top = 0; top <= 9; top++) {
            for (int from = 0; from < 512; from++) {
                everyWay(from, top);
            }
        }
        due.end();
    }

    // ---- every GOOD PATTERN (promises 2 to 17, 22 to 24)

    private static void eachGood(int[] row, int beat) {
        if (beat == row.length) {
            counts[row.length][Arrays.stream(row).sum() / row.length][Arrays.stream(row).max().getAsInt()]++;
            if (row.length <= ASKED_BEATS) {
                ask(new Played(row));
            }
            return;
        }
        for (int height = 0; height <= 9; height++) {
            if (isFree(row, beat, height)) {
                row[beat] = height;
                eachGood(row, beat + 1);
            }
        }
    }

    private static boolean isFree(int[] row, int beat, int height) {
        for (int i = 0; i < beat; i++) {
            if ((i + row[i] - beat - height) % row.length == 0) {
                return false;
            }
        }
        return true;
    }

    private static void ask(Played played) {
        asked++;
        ThrowRows x = new ThrowRows();
        String text = played.text();
        due.is(text, Due.text(x, text), text.length());
        due.is(text + ": clash", x.clash(), -9);
        askGood(x, played);
        askBeats(x, played);
        askBalls(x, played);
        askTurns(x, played);
    }

    private static void askGood(ThrowRows x, Played played) {
        String text = played.text();
        int[] least = played.leastInOrbits();
        TreeSet<Integer> leasts = new TreeSet<>();
        Arrays.stream(least).forEach(leasts::add);
        due.is(text + ": balls", x.good(0), played.balls());
        due.is(text + ": greatest throw", x.good(1), played.greatestThrow());
        due.is(text + ": prime", x.good(2), played.isPrime() ? 1 : 0);
        due.is(text + ": ground", x.good(3), played.isGround() ? 1 : 0);
        due.is(text + ": orbits", x.good(4), leasts.size());
        for (int beat = 0; beat < text.length(); beat++) {
            due.is(text + ": state " + beat, x.state(beat), played.state(beat));
            due.is(text + ": orbit " + beat, x.orbit(beat), leasts.headSet(least[beat]).size());
        }
    }

    private static void askBeats(ThrowRows x, Played played) {
        String text = played.text();
        int hands = 1 + asked % 4;
        due.is(text + ": hands", x.hands(hands), 2);
        for (int b = 0; b <= 40; b += 1 + b / 10) {
            int height = played.height(b);
            due.is(text + ": ball " + b, x.ball(b), played.ball(b));
            due.is(text + ": hand " + b, x.beat(b, 0), b % hands);
            due.is(text + ": to hand " + b, x.beat(b, 1), height == 0 ? -9 : (b + height) % hands);
            due.is(text + ": in the air " + b, x.beat(b, 2), played.inTheAir(b));
        }
    }

    private static void askBalls(ThrowRows x, Played played) {
        String text = played.text();
        int[] mayGo = new int[10];
        for (int k = 0; k < 10; k++) {
            int kind = (asked / (k + 1) + k) % 3;
            x.kind(k, kind);
            mayGo[k] = MAY_GO[kind];
        }
        due.is(text + ": broken", x.broken(), played.broken(mayGo));
        int dropped = asked * 37 % 1024;
        int last = asked * 7 % 150;
        x.drop(dropped);
        due.is(text + ": empty " + last + " of " + dropped, x.empty(last), played.empty(last, dropped));
    }

    private static void askTurns(ThrowRows x, Played played) {
        String text = played.text();
        askGreatest(x, text);
        x.keep(asked % 3);
        String turned = turned(text, asked % 8 % text.length());
        due.is(text + ": turned by " + asked % 8, x.turn(asked % 8), turned.charAt(0) - '0');
        due.holds(text + ": turned is " + turned, Due.told(x).equals(turned));
        due.is(text + ": like when turned", x.like(asked % 3), 1);
        due.is(text + ": back", x.back(asked % 3), text.length());
        String backward = new Played(played.backward()).text();
        due.is(text + ": backward", x.backward(), backward.charAt(0) - '0');
        due.holds(text + ": backward is " + backward, Due.told(x).equals(backward));
        due.is(text + ": like when backward", x.like(asked % 3), (backward + backward).contains(text) ? 1 : 0);
    }

    private static String turned(String text, int k) {
        return text.substring(k) + text.substring(0, k);
    }

    private static void askGreatest(ThrowRows x, String text) {
        String best = text;
        for (int k = 1; k < text.length(); k++) {
            best = turned(text, k).compareTo(best) > 0 ? turned(text, k) : best;
        }
        for (int beat = 0; beat < text.length(); beat++) {
            due.is(text + ": greatest " + beat, x.greatest(beat), best.charAt(beat) - '0');
        }
    }

    // ---- every HOW MANY (promise 18)

    private static void everyHowMany() {
        ThrowRows x = new ThrowRows();
        for (int n = 1; n <= COUNTED_BEATS; n++) {
            for (int balls = 0; balls <= 9; balls++) {
                long sum = 0;
                for (int top = 0; top <= 9; top++) {
                    sum += counts[n][balls][top];
                    due.is("howMany(" + n + ", " + balls + ", " + top + ")", x.howMany(n, balls, top), sum);
                }
            }
        }
    }

    // ---- every text (promises 2, 4, 11, 14)

    private static void everyText(int n) {
        int end = (int) Math.pow(10, n);
        for (int told = 0; told < end; told++) {
            String text = String.valueOf(end + told).substring(1);
            ThrowRows x = Due.with(text);
            due.is(text + ": clash", x.clash(), firstClash(text));
            due.is(text + ": good", x.good(0) == ThrowRows.STATE ? 0 : 1, firstClash(text) == -9 ? 1 : 0);
            askGreatest(x, text);
            everySwap(x, text);
        }
    }

    private static int firstClash(String text) {
        int n = text.length();
        for (int i = 0; i < n; i++) {
            for (int j = i + 1; j < n; j++) {
                if ((i + text.charAt(i) - j - text.charAt(j)) % n == 0) {
                    return 10 * i + j;
                }
            }
        }
        return -9;
    }

    private static void everySwap(ThrowRows x, String text) {
        x.keep(0);
        for (int i = 0; i < text.length(); i++) {
            for (int j = i + 1; j < text.length(); j++) {
                // where each lands, as a beat, goes over to the other one
                int first = j + text.charAt(j) - '0' - i;
                int second = i + text.charAt(i) - '0' - j;
                int want = second < 0 ? -3 : first > 9 ? -4 : 1;
                StringBuilder swapped = new StringBuilder(text);
                if (want == 1) {
                    swapped.setCharAt(i, (char) ('0' + first));
                    swapped.setCharAt(j, (char) ('0' + second));
                }
                due.is(text + ": swap " + i + " " + j, x.swap(i, j), want);
                due.holds(text + ": swapped is " + swapped, Due.told(x).contentEquals(swapped));
                x.back(0);
            }
        }
    }

    // ---- every row with open THROWS (promise 20)

    private static void everyOpenRow(int n) {
        ThrowRows x = new ThrowRows();
        for (int told = 0; told < Math.pow(11, n); told++) {
            int[] open = new int[n];
            for (int beat = 0, left = told; beat < n; beat++, left /= 11) {
                open[beat] = left % 11 - 1;
            }
            Due.numbers(x, 1, open);
            List<List<int[]>> fits = new ArrayList<>();
            for (int balls = 0; balls <= 9; balls++) {
                fits.add(new ArrayList<>());
            }
            fill(open, new int[n], 0, fits);
            askFilled(x, open, fits);
        }
    }

    private static void fill(int[] open, int[] row, int beat, List<List<int[]>> fits) {
        if (beat == row.length) {
            fits.get(Arrays.stream(row).sum() / row.length).add(row.clone());
            return;
        }
        for (int height = 0; height <= 9; height++) {
            if ((open[beat] == -1 || open[beat] == height) && isFree(row, beat, height)) {
                row[beat] = height;
                fill(open, row, beat + 1, fits);
            }
        }
    }

    private static void askFilled(ThrowRows x, int[] open, List<List<int[]>> fits) {
        String row = "filled " + Arrays.toString(open);
        int n = open.length;
        for (int balls = 0; balls <= 9; balls++) {
            List<int[]> found = fits.get(balls);
            due.is(row + " of " + balls, x.filled(1, 2, 0, n, balls, -1), found.size());
            for (int q = 0; q < n; q++) {
                long want = found.isEmpty() ? Due.LOST : found.get(0)[q];
                due.is(row + " of " + balls + ": " + q, x.filled(1, 2, 0, n, balls, q), want);
            }
        }
    }

    // ---- every WAY (promise 19)

    private static void everyWay(int from, int top) {
        ThrowRows x = new ThrowRows();
        TreeMap<Integer, String> rows = firstRows(from, top);
        for (int to = 0; to < 512; to++) {
            String way = "way(" + from + ", " + to + ", " + top + ", ";
            if (Integer.bitCount(from) != Integer.bitCount(to)) {
                due.is(way + "-1)", x.way(from, to, top, -1), -2);
                continue;
            }
            String row = rows.get(to);
            due.is(way + "-1)", x.way(from, to, top, -1), row == null ? -9 : row.length());
            // the throws of each seventh way: all of them would take too long here
            for (int q = 0; (from + to + top) % 7 == 0 && row != null && q <= row.length(); q++) {
                due.is(way + q + ")", x.way(from, to, top, q), q == row.length() ? -9 : row.charAt(q) - '0');
            }
        }
    }

    /** Each STATE that can be come to, with the first of the shortest rows that lead there. */
    private static TreeMap<Integer, String> firstRows(int from, int top) {
        TreeMap<Integer, String> rows = new TreeMap<>();
        rows.put(from, "");
        TreeMap<Integer, String> latest = new TreeMap<>(rows);
        while (!latest.isEmpty()) {
            TreeMap<Integer, String> next = new TreeMap<>();
            latest.forEach((state, row) -> goOn(state, row, top, next));
            next.keySet().removeAll(rows.keySet());
            rows.putAll(next);
            latest = next;
        }
        return rows;
    }

    private static void goOn(int state, String row, int top, TreeMap<Integer, String> next) {
        if (state % 2 == 0) {
            next.merge(state / 2, row + 0, EveryTest::firstOf);
            return;
        }
        for (int k = 1; k <= top; k++) {
            if ((state >> k) % 2 == 0) {
                next.merge((state + (1 << k)) / 2, row + k, EveryTest::firstOf);
            }
        }
    }

    private static String firstOf(String row, String other) {
        return row.compareTo(other) < 0 ? row : other;
    }
}
