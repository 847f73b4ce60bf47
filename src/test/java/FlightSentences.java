/** Term 2 and promises 6 to 10. */
final class FlightSentences {
    private final Sentences s;

    private FlightSentences(Sentences s) {
        this.s = s;
    }

    static void test(Sentences s) {
        FlightSentences these = new FlightSentences(s);
        these.statesAndBalls();
        these.orbits();
        these.handsAndAir();
        these.primeAndGround();
        these.stateAndBall();
        these.orbitAndHands();
        these.beat();
    }

    private void statesAndBalls() {
        s.of("T2", "Of a GOOD PATTERN: STATE ahead of a BEAT: bit k, if a ball lands k beats on", "504")
            .are("state(", 13, 22, 11).text("9").is("state(0)", 511).text("81").is("state(0)", -3)
            .text("8040").are("state(", 21, 138, 69, 42).text("00000008").are("state(", 128, 64, 32, 16, 8, 4, 2, 1);
        s.of("T2", "(bit 0: in that beat)", "20").are("state(", 1, 2).text("1").is("state(0)", 1).text("04").are("state(", 10, 5);
        s.of("T2", "of those thrown ahead of it.", "1").is("state(0)", 1).text("80000000")
            .are("state(", 1, 128, 64, 32, 16, 8, 4, 2).text("40").are("state(", 5, 10);
        s.of("T2", "BALLS are numbered from 0 on by the beats, from beat 0 on, in which they are thrown there first.", "504")
            .are("ball(", 0, -9, 1, 2, -9, 0, 1, -9, 2, 0).text("00000008").is("ball(6)", -9).is("ball(7)", 0).is("ball(15)", 0)
            .text("91").are("ball(", 0, 1, 1, 2, 2, 3, 3, 4, 4, 0, 0, 1).text("9").is("ball(8)", 8).is("ball(9)", 0)
            .text("19").are("ball(", 0, 0, 1, 1, 2, 2, 3, 3, 4, 4, 0, 0).text("531").does("turn(1)")
            .are("ball(", 0, 1, 1, 0, 2, 2, 0, 1, 1);
    }

    private void orbits() {
        s.of("T2", "ORBITS: BEATS that hang together, as a ball thrown in the one lands in the other;", "531")
            .are("orbit(", 0, 1, 0).text("441").are("orbit(", 0, 0, 0).text("9").is("orbit(0)", 0)
            .text("99999999").are("orbit(", 0, 0, 0, 0, 0, 0, 0, 0).is("good(4)", 1);
        s.of("T2", "numbered from 0 on by their least BEAT;", "52512").are("orbit(", 0, 1, 2, 1, 1)
            .text("88888888").are("orbit(", 0, 1, 2, 3, 4, 5, 6, 7).text("97531").are("orbit(", 0, 1, 2, 1, 0)
            .text("20").are("orbit(", 0, 1);
        s.of("T2", "ones with THROW 0 alone, too.", "0").is("orbit(0)", 0).is("good(4)", 1).text("55500")
            .are("orbit(", 0, 1, 2, 3, 4).is("good(4)", 5).text("00000008").is("orbit(7)", 7).is("good(4)", 8);
    }

    private void handsAndAir() {
        Run x = s.of("T2", "HANDS 1 .. 4: beat b is of HAND b modulo HANDS.", "3");
        x.is("hands(0)", -2).is("hands(5)", -2);
        for (int hands = 1; hands <= 4; hands++) {
            x.does("hands(" + hands + ")").is("beat(0, 0)", 0).is("beat(1, 0)", 1 % hands).is("beat(2, 0)", 2 % hands)
                .is("beat(3, 0)", 3 % hands).is("beat(4, 0)", 4 % hands).is("beat(999, 0)", 999 % hands)
                .is("beat(998, 0)", 998 % hands).is("beat(997, 0)", 997 % hands);
        }
        s.of("T2", "IN THE AIR at a beat: BALLS thrown ahead of it that land behind it.", "1")
            .is("beat(0, 2)", 0).text("2").is("beat(0, 2)", 1).text("9").is("beat(0, 2)", 8).is("beat(999, 2)", 8)
            .text("40").is("beat(0, 2)", 1).is("beat(1, 2)", 2).text("0").is("beat(5, 2)", 0)
            .text("20").is("beat(0, 2)", 0).is("beat(1, 2)", 1);
    }

    private void primeAndGround() {
        s.of("T2", "PRIME: of all its BEATS no two have one STATE.", "9").is("good(2)", 1).text("99").is("good(2)", 0)
            .text("5152").is("good(2)", -3).text("4440").is("good(2)", 1).text("3333333").is("good(2)", 0)
            .text("52512").is("state(2)", 11).is("state(4)", 11).is("good(2)", 0).text("5313").is("good(2)", 0)
            .text("3531").is("good(2)", 0).text("42333").is("state(3)", 7).is("state(4)", 7).is("good(2)", 0);
        s.of("T2", "GROUND: of some BEAT the STATE is that with the lowest bits, as many as BALLS.", "531")
            .is("good(3)", 1).does("turn(2)").is("state(0)", 13).is("good(3)", 1).text("504").is("good(3)", 0)
            .text("9").is("good(3)", 1).text("0").is("good(3)", 1).text("00000008").is("good(3)", 1).text("0404")
            .is("good(3)", 0);
    }

    private void stateAndBall() {
        s.of("P6", "STATE ahead of a BEAT.", "531").are("state(", 7, 19, 13);
        s.of("P6", "UNKNOWN;").is("state(0)", -1).text("531").is("state(-1)", -1).is("state(3)", -1).is("state(max)", -1)
            .is("state(min)", -1).text("543").is("state(-1)", -1).is("state(3)", -1);
        s.of("P6", "STATE: it is not GOOD.", "543").are("state(", -3, -3, -3).is("state(3)", -1);
        s.of("P7", "Which BALL is thrown in a beat (0 .. 999);", "531").are("ball(", 0, 1, 2, 2, 1, 0, 0, 1, 2, 2)
            .is("ball(999)", 2).is("ball(998)", 2).text("1").is("ball(0)", 0).is("ball(999)", 0);
        s.of("P7", "NONE: none.", "40").is("ball(0)", 0).is("ball(1)", -9).is("ball(998)", 1).is("ball(999)", -9)
            .text("04").is("ball(0)", -9).is("ball(999)", 1);
        s.of("P7", "OUTSIDE;").is("ball(-1)", -2).is("ball(1000)", -2).text("543").is("ball(-1)", -2).is("ball(1000)", -2)
            .text("531").is("ball(-1)", -2).is("ball(1000)", -2).is("ball(max)", -2).is("ball(min)", -2);
        s.of("P7", "STATE: it is not GOOD, there is none.").is("ball(0)", -3).is("ball(999)", -3).text("543")
            .is("ball(0)", -3).is("ball(999)", -3).text("531").is("ball(0)", 0);
    }

    private void orbitAndHands() {
        s.of("P8", "In which ORBIT a BEAT is.", "531").are("orbit(", 0, 1, 0);
        s.of("P8", "UNKNOWN;").is("orbit(0)", -1).text("531").is("orbit(-1)", -1).is("orbit(3)", -1).is("orbit(max)", -1)
            .is("orbit(min)", -1).text("543").is("orbit(-1)", -1).is("orbit(3)", -1);
        s.of("P8", "STATE: it is not GOOD.", "543").are("orbit(", -3, -3, -3);
        s.of("P9", "HANDS become so many: how many there were.", "531").is("hands(1)", 2).is("many(1)", 1)
            .is("hands(4)", 1).is("many(1)", 4).is("hands(3)", 4).is("hands(3)", 3).text("543").is("hands(4)", 2);
        s.of("P9", "OUTSIDE;").is("hands(0)", -2).is("hands(5)", -2).text("531").is("hands(0)", -2).is("hands(5)", -2)
            .is("hands(-1)", -2).is("hands(min)", -2).is("hands(max)", -2).is("many(1)", 2);
        s.of("P9", "STATE: there is no PATTERN.").is("hands(1)", -3).is("hands(4)", -3).is("many(1)", 0).text("3")
            .is("many(1)", 2);
    }

    private void beat() {
        s.of("P10", "In a beat (0 .. 999): its HAND (what 0)", "504").is("beat(0, 0)", 0).is("beat(1, 0)", 1)
            .is("beat(999, 0)", 1).does("hands(4)").is("beat(999, 0)", 3).is("beat(996, 0)", 0);
        s.of("P10", "the HAND in which what is thrown lands (1;", "504").is("beat(0, 1)", 1).is("beat(2, 1)", 0)
            .is("beat(999, 1)", 0).does("hands(4)").is("beat(0, 1)", 1).is("beat(2, 1)", 2).is("beat(3, 1)", 0)
            .is("beat(999, 1)", 0).does("hands(3)").is("beat(0, 1)", 2).is("beat(2, 1)", 0).does("hands(1)")
            .is("beat(0, 1)", 0).is("beat(998, 1)", 0);
        s.of("P10", "NONE: nothing is thrown)", "504").is("beat(1, 1)", -9).is("beat(997, 1)", -9).is("beat(1, 0)", 1)
            .is("beat(1, 2)", 3);
        s.of("P10", "how many are IN THE AIR (2).", "504").is("beat(0, 2)", 2).is("beat(1, 2)", 3).is("beat(2, 2)", 2)
            .is("beat(999, 2)", 2).is("beat(997, 2)", 3).does("hands(1)").is("beat(1, 2)", 3).does("drop(1023)")
            .is("beat(1, 2)", 3);
        s.of("P10", "OUTSIDE;").is("beat(-1, 0)", -2).is("beat(1000, 0)", -2).is("beat(0, -1)", -2).is("beat(0, 3)", -2)
            .text("543").is("beat(-1, 0)", -2).is("beat(1000, 2)", -2).is("beat(0, -1)", -2).is("beat(0, 3)", -2)
            .text("531").is("beat(-1, 1)", -2).is("beat(1000, 1)", -2).is("beat(0, -1)", -2).is("beat(0, 3)", -2)
            .is("beat(min, 0)", -2).is("beat(max, 0)", -2).is("beat(0, min)", -2).is("beat(0, max)", -2);
        s.of("P10", "STATE: it is not GOOD, there is none.").is("beat(0, 0)", -3).is("beat(999, 1)", -3).is("beat(0, 2)", -3)
            .text("543").is("beat(0, 0)", -3).is("beat(999, 1)", -3).is("beat(0, 2)", -3);
    }
}
