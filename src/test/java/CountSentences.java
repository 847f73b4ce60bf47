/** Term 4 and promises 18 to 20. */
final class CountSentences {
    private static final long LOST = Due.LOST;

    private final Sentences s;

    private CountSentences(Sentences s) {
        this.s = s;
    }

    static void test(Sentences s) {
        CountSentences these = new CountSentences(s);
        these.counts();
        these.ways();
        these.fillings();
        these.howMany();
        these.way();
        these.wayRefuses();
        these.filled();
        these.filledRefuses();
    }

    private void counts() {
        Run x = s.of("T4", "HOW MANY GOOD PATTERNS of a PERIOD (1 .. 8) there are");
        x.is("howMany(0, 1, 9)", LOST).is("howMany(9, 1, 9)", LOST);
        for (int period = 1; period <= 8; period++) {
            // with one ball none is thrown above the period, so TOP 9 leaves all 2 ^ n - 1 of them
            x.is("howMany(" + period + ", 1, 9)", (1 << period) - 1);
        }
        x = s.of("T4", "with so many BALLS (0 .. 9)");
        x.is("howMany(1, -1, 9)", LOST).is("howMany(1, 10, 9)", LOST);
        for (int balls = 0; balls <= 9; balls++) {
            x.is("howMany(1, " + balls + ", 9)", 1).is("howMany(8, " + balls + ", " + balls + ")", 1);
        }
        x = s.of("T4", "and no THROW above a TOP (0 .. 9)");
        x.is("howMany(2, 2, -1)", LOST).is("howMany(2, 2, 10)", LOST);
        // 22, 31, 13, 40, 04
        x.is("howMany(2, 2, 0)", 0).is("howMany(2, 2, 1)", 0).is("howMany(2, 2, 2)", 1).is("howMany(2, 2, 3)", 3)
            .is("howMany(2, 2, 4)", 5).is("howMany(2, 2, 9)", 5).is("howMany(8, 9, 9)", 1).is("howMany(8, 9, 8)", 0)
            .is("howMany(8, 0, 0)", 1);
        s.of("T4", "TURNED ones counted, too.").is("howMany(2, 1, 9)", 3).is("howMany(3, 1, 9)", 7).is("howMany(3, 3, 9)", 37);
    }

    private void ways() {
        s.of("T4", "A WAY from a STATE to another one (bits below 512, as many in both)")
            .is("way(256, 1, 9, -1)", 8).is("way(511, 511, 9, -1)", 0).is("way(0, 0, 0, -1)", 0).is("way(1, 256, 9, -1)", 1)
            .is("way(512, 1, 9, -1)", -2).is("way(1, 512, 9, -1)", -2).is("way(3, 1, 9, -1)", -2).is("way(0, 1, 9, -1)", -2);
        s.of("T4", "by THROWS no higher than a TOP:").is("way(1, 256, 9, -1)", 1).is("way(1, 256, 8, -1)", -9)
            .is("way(1, 128, 8, -1)", 1).is("way(7, 13, 4, -1)", 2).is("way(7, 13, 3, -1)", -9).is("way(1, 2, 1, -1)", -9)
            .is("way(1, 2, 2, -1)", 1);
        s.of("T4", "in each beat, if bit 0 is set, that ball is thrown").is("way(1, 1, 9, -1)", 0).is("way(3, 5, 9, 0)", 3)
            .is("way(3, 6, 9, -1)", 2).is("way(3, 6, 9, 0)", 3).is("way(3, 6, 9, 1)", 3).is("way(1, 4, 0, -1)", -9);
        s.of("T4", "to a bit k at which none lands").is("way(3, 5, 9, -1)", 1).is("way(7, 7, 9, -1)", 0)
            .is("way(15, 23, 4, -1)", -9).is("way(85, 170, 9, 0)", 8).is("way(85, 170, 9, -1)", 1)
            .is("way(255, 383, 8, -1)", -9)
            .is("way(255, 383, 9, 0)", 9);
        s.of("T4", "(k at least 1, no more than TOP)").is("way(2, 1, 0, -1)", 1).is("way(5, 3, 0, -1)", -9)
            .is("way(5, 3, 1, -1)", 1).is("way(5, 3, 1, 0)", 1).is("way(1, 256, 9, 0)", 9);
        s.of("T4", "else THROW 0;").is("way(2, 1, 9, 0)", 0).is("way(256, 1, 9, 7)", 0).is("way(510, 255, 9, -1)", 1)
            .is("way(510, 255, 9, 0)", 0).is("way(448, 7, 0, -1)", 6).is("way(448, 7, 0, 5)", 0);
        s.of("T4", "all bits come one down then:").is("way(6, 3, 9, -1)", 1).is("way(12, 3, 9, -1)", 2)
            .is("way(13, 7, 9, -1)", 1).is("way(13, 7, 9, 0)", 1);
        s.of("T4", "the fewest beats;").is("way(7, 22, 5, -1)", 3).is("way(7, 448, 9, -1)", 3).is("way(256, 2, 9, -1)", 7)
            .is("way(2, 256, 9, -1)", 2).is("way(7, 7, 3, -1)", 0);
        // from 7 to 22 lead 445 and 535
        s.of("T4", "of several the first as a row of THROWS.").is("way(7, 22, 5, 0)", 4).is("way(7, 22, 5, 1)", 4)
            .is("way(7, 22, 5, 2)", 5).is("way(7, 448, 9, 0)", 9);
    }

    private void fillings() {
        s.of("T4", "FILLED: a row of THROWS of which some are open (-1):").numbers(0, 5, -1, 1)
            .is("filled(0, 2, 0, 3, 3, -1)", 1).is("filled(0, 2, 0, 3, 3, 1)", 3).is("filled(0, 2, 0, 3, 4, -1)", 1)
            .is("filled(0, 2, 0, 3, 4, 1)", 6).is("filled(0, 2, 1, 1, 8, 0)", 8);
        s.of("T4", "how many GOOD PATTERNS with so many BALLS there are").numbers(0, -1, -1, 1)
            .is("filled(0, 2, 0, 3, 3, -1)", 6).is("filled(0, 2, 0, 3, 0, -1)", 0).is("filled(0, 2, 0, 2, 2, -1)", 5)
            .numbers(0, 5, 4, 3).is("filled(0, 2, 0, 3, 4, -1)", 0).numbers(0, 5, 3, 1).is("filled(0, 2, 0, 3, 3, -1)", 1)
            .is("filled(0, 2, 0, 3, 2, -1)", 0).is("filled(0, 2, 0, 3, 4, -1)", 0);
        s.of("T4", "that have THROWS 0 .. 9 in their places;").numbers(0, -1, -1, 9, 0).is("filled(0, 2, 0, 1, 0, 0)", 0)
            .is("filled(0, 2, 0, 1, 9, 0)", 9).is("filled(0, 2, 0, 2, 9, -1)", 1).is("filled(0, 2, 0, 2, 5, -1)", 9)
            .is("filled(0, 2, 1, 2, 9, 0)", 9).is("filled(0, 2, 1, 2, 4, -1)", 0).is("filled(0, 2, 3, 1, 0, -1)", 1);
        s.of("T4", "the first of them as a row.").numbers(0, -1, -1, -1).is("filled(0, 2, 0, 3, 3, 0)", 0)
            .is("filled(0, 2, 0, 3, 3, 1)", 0).is("filled(0, 2, 0, 3, 3, 2)", 9).is("filled(0, 2, 0, 2, 5, 0)", 1)
            .is("filled(0, 2, 0, 2, 5, 1)", 9);
    }

    private void howMany() {
        s.of("P18", "HOW MANY.").is("howMany(8, 3, 9)", 36479).is("howMany(8, 9, 9)", 1).is("howMany(1, 0, 0)", 1)
            .is("howMany(1, 9, 9)", 1).is("howMany(1, 9, 8)", 0).is("howMany(1, 0, 9)", 1).is("howMany(8, 0, 9)", 1);
        s.of("P18", "LOST: OUTSIDE.").is("howMany(0, 0, 0)", LOST).is("howMany(9, 0, 0)", LOST).is("howMany(1, -1, 0)", LOST)
            .is("howMany(1, 10, 0)", LOST).is("howMany(1, 0, -1)", LOST).is("howMany(1, 0, 10)", LOST)
            .is("howMany(min, 0, 0)", LOST).is("howMany(max, 0, 0)", LOST).is("howMany(1, min, 0)", LOST)
            .is("howMany(1, max, 0)", LOST).is("howMany(1, 0, min)", LOST).is("howMany(1, 0, max)", LOST);
    }

    private void way() {
        s.of("P19", "A WAY: how many beats (q -1;").is("way(7, 13, 5, -1)", 2).is("way(7, 7, 5, -1)", 0)
            .is("way(0, 0, 9, -1)", 0).is("way(511, 511, 0, -1)", 0);
        s.of("P19", "NONE: there is none)").is("way(7, 448, 3, -1)", -9).is("way(1, 2, 0, -1)", -9)
            .is("way(7, 448, 3, 0)", -9).is("way(7, 448, 3, max)", -9);
        s.of("P19", "the q-th THROW (0 on);").is("way(7, 13, 5, 0)", 4).is("way(7, 13, 5, 1)", 4).is("way(256, 1, 0, 0)", 0)
            .is("way(256, 1, 0, 7)", 0).is("way(13, 7, 9, 0)", 1);
        s.of("P19", "NONE: there are fewer.").is("way(7, 13, 5, 2)", -9).is("way(7, 13, 5, max)", -9).is("way(7, 7, 5, 0)", -9)
            .is("way(256, 1, 0, 8)", -9);
    }

    private void wayRefuses() {
        s.of("P19", "OUTSIDE: states (0 .. 511").is("way(-1, 1, 9, -1)", -2).is("way(512, 1, 9, -1)", -2)
            .is("way(1, -1, 9, -1)", -2).is("way(1, 512, 9, -1)", -2).is("way(512, 512, 9, -1)", -2)
            .is("way(-1, -1, 9, -1)", -2).is("way(min, min, 9, -1)", -2).is("way(max, max, 9, -1)", -2)
            .is("way(511, 511, 9, -1)", 0).is("way(0, 0, 9, -1)", 0);
        s.of("P19", "unlike many bits)").is("way(0, 1, 9, -1)", -2).is("way(511, 510, 9, -1)", -2).is("way(7, 3, 9, -1)", -2)
            .is("way(3, 7, 9, -1)", -2);
        s.of("P19", "top (0 .. 9);").is("way(1, 1, -1, -1)", -2).is("way(1, 1, 10, -1)", -2).is("way(1, 1, min, -1)", -2)
            .is("way(1, 1, max, -1)", -2).is("way(1, 1, 0, -1)", 0).is("way(1, 1, 9, -1)", 0);
        s.of("P19", "UNKNOWN: q below -1.").is("way(1, 1, 9, -2)", -1).is("way(1, 1, 9, min)", -1).is("way(1, 2, 0, -2)", -1)
            .is("way(512, 1, 9, -2)", -2).is("way(1, 3, 9, -2)", -2).is("way(1, 1, 10, -2)", -2);
    }

    private void filled() {
        s.of("P20", "FILLED, n such cells:").numbers(3, 7, -1, 3, -1, 7).is("filled(3, 2, 1, 3, 3, -1)", 5)
            .is("filled(3, 2, 2, 1, 3, -1)", 1).is("filled(3, 2, 0, 5, 0, -1)", 0).does("sheet(0, 0, 2)", "put(0, 1, -1)")
            .is("filled(0, 0, 1, 1, 4, 0)", 4).does("sheet(1, 1, 2)", "put(1, 0, 65535)").is("filled(1, 1, 0, 1, 4, 0)", 4)
            .is("many(0)", 0);
        s.of("P20", "how many (q -1)").numbers(0, -1, -1, -1, -1, -1, -1, -1, -1).is("filled(0, 2, 0, 8, 3, -1)", 36479)
            .is("filled(0, 2, 0, 1, 9, -1)", 1).is("filled(0, 2, 0, 8, 9, -1)", 1).is("filled(0, 2, 0, 8, 0, -1)", 1)
            .numbers(0, 1, 0).is("filled(0, 2, 0, 2, 1, -1)", 0).is("fault()", 0);
        s.of("P20", "the q-th THROW of the first;").numbers(0, -1, 3, -1).is("filled(0, 2, 0, 3, 3, 0)", 0)
            .is("filled(0, 2, 0, 3, 3, 1)", 3).is("filled(0, 2, 0, 3, 3, 2)", 6);
        s.of("P20", "LOST, as for refusals, also: there is none (of q 0 on).").numbers(0, 4, 4, 2)
            .is("filled(0, 2, 0, 3, 3, -1)", 0).is("filled(0, 2, 0, 3, 3, 0)", LOST).is("filled(0, 2, 0, 3, 3, 2)", LOST)
            .is("fault()", 0);
    }

    private void filledRefuses() {
        s.of("P20", "LOST: UNKNOWN: SHEET;").does("as(0, 1)").is("filled(-1, 0, 0, 1, 0, -1)", LOST).is("fault()", 0)
            .does("as(0, 1)").is("filled(4, 0, 0, 1, 0, -1)", LOST).is("fault()", 0)
            .is("filled(max, 0, 0, 1, 0, -1)", LOST).is("filled(min, 0, 0, 1, 0, -1)", LOST);
        s.of("P20", "OUTSIDE: sort, balls (0 .. 9);").is("filled(0, 3, 0, 1, 0, -1)", LOST).is("fault()", 0)
            .is("filled(0, -1, 0, 1, 0, -1)", LOST).is("fault()", 0).is("filled(0, 0, 0, 1, 10, -1)", LOST).is("fault()", 0)
            .is("filled(0, 0, 0, 1, -1, -1)", LOST).is("fault()", 0).is("filled(0, 0, 0, 1, 9, -1)", LOST).is("fault()", 1)
            .is("filled(0, 0, 0, 1, 0, -1)", LOST).is("fault()", 1).numbers(0, -1).is("filled(0, 2, 0, 1, 0, -1)", 1)
            .is("filled(0, 2, 0, 1, 9, -1)", 1).is("filled(0, 2, 0, 1, 10, -1)", LOST).is("filled(0, 2, 0, 1, -1, -1)", LOST);
        s.of("P20", "FAULTS CAST, NULL, SIZE, INDEX;").numbers(0, 10, -1).is("filled(0, 1, -1, -1, 0, -2)", LOST)
            .is("fault()", 2).is("filled(1, 1, -1, -1, 0, -2)", LOST).is("fault()", 1).is("filled(0, 2, -1, -1, 0, -2)", LOST)
            .is("fault()", 4).is("filled(0, 2, -1, 0, 0, -2)", LOST).is("fault()", 3).is("filled(0, 2, 0, 3, 0, -2)", LOST)
            .is("fault()", 3).is("filled(0, 2, 3, 0, 0, -2)", LOST).is("fault()", 3).is("filled(0, 2, 1, max, 0, -2)", LOST)
            .is("fault()", 3).is("filled(0, 2, 1, 1, 0, -1)", 1).is("fault()", 0);
        s.of("P20", "OUTSIDE: n is not 1 .. 8").numbers(0, 0, 0, 0, 0, 0, 0, 0, 0, 0).does("as(0, 1)")
            .is("filled(0, 2, 9, 0, 0, -1)", LOST).is("fault()", 0).does("as(0, 1)").is("filled(0, 2, 0, 9, 0, -1)", LOST)
            .is("fault()", 0).is("filled(0, 2, 0, 8, 0, -1)", 1).is("filled(0, 2, 8, 1, 0, -1)", 1);
        s.of("P20", "a cell (-1 .. 9);").numbers(0, -2, -1, 0, 9, 10).does("as(0, 1)").is("filled(0, 2, 0, 1, 0, -1)", LOST)
            .is("fault()", 0).is("filled(0, 2, 0, 2, 0, -1)", LOST).is("filled(0, 2, 1, 1, 0, -1)", 1)
            .is("filled(0, 2, 2, 1, 0, -1)", 1).is("filled(0, 2, 3, 1, 9, -1)", 1).is("filled(0, 2, 4, 1, 9, -1)", LOST)
            .is("filled(0, 2, 3, 2, 9, -1)", LOST).is("fault()", 0).numbers(0, Integer.MIN_VALUE, Integer.MAX_VALUE)
            .is("filled(0, 2, 0, 1, 0, -1)", LOST).is("filled(0, 2, 1, 1, 0, -1)", LOST);
        s.of("P20", "UNKNOWN: q is not -1 .. n - 1.").numbers(0, -1, -1, -1).does("as(0, 1)").is("filled(0, 2, 0, 2, 9, -2)", LOST)
            .is("fault()", 0).is("filled(0, 2, 0, 2, 9, -1)", 1).is("filled(0, 2, 0, 2, 9, 1)", 9)
            .is("filled(0, 2, 0, 2, 9, 2)", LOST).is("filled(0, 2, 0, 2, 9, max)", LOST).is("filled(0, 2, 0, 2, 9, min)", LOST)
            .is("fault()", 0);
    }
}
