import java.util.Arrays;
import java.util.HashMap;
import java.util.Map;
import java.util.TreeSet;

/**
 * A GOOD PATTERN played out beat by beat, from long ahead of beat 0 on, with a ball in the hand:
 * what the document says of balls, states and orbits is then only looked at, never reckoned.
 */
final class Played {
    private static final int FIRST = -90, END = 200, HIGHEST = 9;

    final int[] row;
    private final int[] thrower = new int[END + HIGHEST - FIRST];
    private final Map<Integer, Integer> numbers = new HashMap<>();
    private int balls;

    Played(int[] row) {
        this.row = row.clone();
        Arrays.fill(thrower, -1);
        for (int b = FIRST; b < END; b++) {
            if (height(b) > 0) {
                throwIn(b);
            }
        }
    }

    private void throwIn(int b) {
        if (thrower[b - FIRST] == -1) {
            thrower[b - FIRST] = balls++;
        }
        int ball = thrower[b - FIRST];
        if (b >= 0) {
            numbers.putIfAbsent(ball, numbers.size());
        }
        if (thrower[b + height(b) - FIRST] != -1) {
            throw new IllegalStateException("two land in " + (b + height(b)) + ": " + text());
        }
        thrower[b + height(b) - FIRST] = ball;
    }

    int height(int b) {
        return row[Math.floorMod(b, row.length)];
    }

    String text() {
        StringBuilder text = new StringBuilder();
        for (int height : row) {
            text.append(height);
        }
        return text.toString();
    }

    int balls() {
        return balls;
    }

    int greatestThrow() {
        return Arrays.stream(row).max().getAsInt();
    }

    /** The number of the BALL thrown in a beat; -9: none. */
    int ball(int b) {
        return height(b) == 0 ? -9 : numbers.get(thrower[b - FIRST]);
    }

    int state(int b) {
        int state = 0;
        for (int ahead = b - HIGHEST; ahead < b; ahead++) {
            if (height(ahead) > 0 && ahead + height(ahead) >= b) {
                state += 1 << ahead + height(ahead) - b;
            }
        }
        return state;
    }

    int inTheAir(int b) {
        int count = 0;
        for (int ahead = b - HIGHEST; ahead < b; ahead++) {
            count += ahead + height(ahead) > b ? 1 : 0;
        }
        return count;
    }

    boolean isPrime() {
        return states().size() == row.length;
    }

    boolean isGround() {
        return states().contains((1 << balls) - 1);
    }

    private TreeSet<Integer> states() {
        TreeSet<Integer> states = new TreeSet<>();
        for (int beat = 0; beat < row.length; beat++) {
            states.add(state(beat));
        }
        return states;
    }

    /** By BEATS: the least BEAT of its ORBIT, by the beats in which one ball is ever seen. */
    int[] leastInOrbits() {
        Map<Integer, TreeSet<Integer>> seenIn = new HashMap<>();
        for (int b = 0; b < END; b++) {
            if (height(b) > 0) {
                seenIn.computeIfAbsent(ball(b), unseen -> new TreeSet<>()).add(b % row.length);
            }
        }
        int[] least = new int[row.length];
        Arrays.setAll(least, beat -> beat);
        for (TreeSet<Integer> beats : seenIn.values()) {
            beats.forEach(beat -> least[beat] = beats.first());
        }
        return least;
    }

    /** The row as it is seen when all beats are run from the last to the first. */
    int[] backward() {
        int[] seen = new int[row.length];
        for (int b = FIRST; b < END; b++) {
            int then = row.length - 1 - (b + height(b));
            if (then >= 0 && then < row.length) {
                seen[then] = height(b);
            }
        }
        return seen;
    }

    int broken(int[] mayGo) {
        int set = 0;
        for (int b = 0; b < END; b++) {
            if (height(b) > 0 && height(b) > mayGo[ball(b)]) {
                set |= 1 << ball(b);
            }
        }
        return set;
    }

    int empty(int last, int dropped) {
        int count = 0;
        for (int b = 0; b <= last; b++) {
            count += height(b) > 0 && (dropped >> ball(b) & 1) == 1 ? 1 : 0;
        }
        return count;
    }
}
