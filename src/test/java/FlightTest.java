/** Promises 6 to 10: state, ball, orbit, hands, beat. */
public final class FlightTest {
    private static final Due due = new Due();

    public static void main(String[] args) {
        state();
        ball();
        orbit();
        hands();
        beat();
        due.end();
    }

    private static void state() {
        ThrowRows x = new ThrowRows();
        due.is("6 no pattern", x.state(0), -1);
        statesAre("531", 7, 19, 13);
        statesAre("504", 13, 22, 11);
        statesAre("8040", 21, 138, 69, 42);
        statesAre("9", 511);
        statesAre("0", 0);
        statesAre("1", 1);
        Due.text(x, "543");
        due.is("6 not good", x.state(0), -3);
        due.is("6 unknown ahead of state", x.state(3), -1);
        due.is("6 unknown ahead of state", x.state(-1), -1);
    }

    private static void statesAre(String text, int... states) {
        ThrowRows x = Due.with(text);
        for (int beat = 0; beat < states.length; beat++) {
            due.is("6 " + text + " state " + beat, x.state(beat), states[beat]);
        }
        due.is("6 " + text + " beyond", x.state(states.length), -1);
        due.is("6 " + text + " -1", x.state(-1), -1);
    }

    private static void ball() {
        ThrowRows x = new ThrowRows();
        due.is("7 outside ahead of state", x.ball(-1), -2);
        due.is("7 outside ahead of state", x.ball(1000), -2);
        due.is("7 no pattern", x.ball(0), -3);
        ballsAre("531", 0, 1, 2, 2, 1, 0, 0, 1, 2, 2);
        ballsAre("504", 0, -9, 1, 2, -9, 0, 1, -9, 2, 0);
        ballsAre("543", -3);
        ballsAre("91", 0, 1, 1, 2, 2, 3, 3, 4, 4, 0, 0, 1);
        ballsAre("9", 0, 1, 2, 3, 4, 5, 6, 7, 8, 0, 1);
        ballsAre("0", -9, -9);
        ballsAre("1", 0, 0, 0);
        Due.text(x, "40");
        due.is("7 the last beat but one", x.ball(998), 1);
        due.is("7 the last beat", x.ball(999), -9);
    }

    private static void ballsAre(String text, int... balls) {
        ThrowRows x = Due.with(text);
        for (int b = 0; b < balls.length; b++) {
            due.is("7 " + text + " ball " + b, x.ball(b), balls[b]);
        }
    }

    private static void orbit() {
        ThrowRows x = new ThrowRows();
        due.is("8 no pattern", x.orbit(0), -1);
        orbitsAre("531", 0, 1, 0);
        orbitsAre("55500", 0, 1, 2, 3, 4);
        orbitsAre("52512", 0, 1, 2, 1, 1);
        orbitsAre("441", 0, 0, 0);
        orbitsAre("97531", 0, 1, 2, 1, 0);
        orbitsAre("3", 0);
        Due.text(x, "543");
        due.is("8 not good", x.orbit(2), -3);
        due.is("8 unknown ahead of state", x.orbit(3), -1);
    }

    private static void orbitsAre(String text, int... orbits) {
        ThrowRows x = Due.with(text);
        for (int beat = 0; beat < orbits.length; beat++) {
            due.is("8 " + text + " orbit " + beat, x.orbit(beat), orbits[beat]);
        }
        due.is("8 " + text + " beyond", x.orbit(orbits.length), -1);
        due.is("8 " + text + " -1", x.orbit(-1), -1);
    }

    private static void hands() {
        ThrowRows x = new ThrowRows();
        due.is("9 outside ahead of state", x.hands(0), -2);
        due.is("9 outside ahead of state", x.hands(5), -2);
        due.is("9 no pattern", x.hands(1), -3);
        due.is("9 changes nothing", x.many(1), 0);
        Due.text(x, "543");
        due.is("9 not good is fine", x.hands(1), 2);
        due.is("9", x.hands(4), 1);
        due.is("9 outside", x.hands(5), -2);
        due.is("9 outside", x.hands(Integer.MIN_VALUE), -2);
        due.is("9", x.hands(2), 4);
        due.is("9", x.many(1), 2);
    }

    private static void beat() {
        ThrowRows x = new ThrowRows();
        due.is("10 outside ahead of state", x.beat(-1, 0), -2);
        due.is("10 outside ahead of state", x.beat(1000, 0), -2);
        due.is("10 outside ahead of state", x.beat(0, -1), -2);
        due.is("10 outside ahead of state", x.beat(0, 3), -2);
        due.is("10 no pattern", x.beat(0, 0), -3);
        Due.text(x, "543");
        for (int what = 0; what < 3; what++) {
            due.is("10 not good", x.beat(0, what), -3);
        }
        Due.text(x, "504");
        beatIs(x, 0, 0, 1, 2);
        beatIs(x, 1, 1, -9, 3);
        beatIs(x, 2, 0, 0, 2);
        beatIs(x, 999, 1, 0, 2);
        x.hands(3);
        beatIs(x, 0, 0, 2, 2);
        beatIs(x, 5, 2, 0, 2);
        beatIs(x, 998, 2, 0, 2);
        x.hands(1);
        beatIs(x, 3, 0, 0, 2);
        x.hands(4);
        beatIs(x, 7, 3, -9, 3);
        Due.text(x, "9");
        beatIs(x, 0, 0, 1, 8);
        Due.text(x, "1");
        beatIs(x, 0, 0, 1, 0);
        Due.text(x, "0");
        beatIs(x, 1, 1, -9, 0);
    }

    private static void beatIs(ThrowRows x, int b, int hand, int landing, int air) {
        due.is("10 hand in " + b, x.beat(b, 0), hand);
        due.is("10 landing in " + b, x.beat(b, 1), landing);
        due.is("10 in the air in " + b, x.beat(b, 2), air);
    }
}
