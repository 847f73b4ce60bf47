/** Term 5 and promises 21 to 24. */
final class BallSentences {
    private final Sentences s;

    private BallSentences(Sentences s) {
        this.s = s;
    }

    static void test(Sentences s) {
        BallSentences these = new BallSentences(s);
        these.kinds();
        these.heightsAndDrops();
        these.kind();
        these.broken();
        these.drop();
        these.empty();
    }

    private void kinds() {
        s.of("T5", "BALLS (0 .. 9, whether the PATTERN has them or not)").is("kind(0, 1)", 0).is("kind(9, 2)", 0)
            .is("kind(10, 0)", -1).is("kind(-1, 0)", -1).is("tell(9)", 118).is("call(9)", 70).text("0").is("kind(9, 1)", 0)
            .is("tell(9)", 109).is("drop(512)", 0).is("drop(0)", 512);
        s.of("T5", "are each of a kind: 0 BALL; 1 HEAVY, a BALL; 2 EGG, a HEAVY")
            .does("kind(1, 1)", "kind(2, 2)").is("as(0, 0)", 1).is("as(0, 1)", -12).is("as(0, 2)", -12)
            .is("as(1, 0)", 1).is("as(1, 1)", 1).is("as(1, 2)", -12).is("as(2, 0)", 1).is("as(2, 1)", 1).is("as(2, 2)", 1);
        Run x = s.of("T5", "(all 0 at first).");
        for (int k = 0; k < 10; k++) {
            x.is("kind(" + k + ", 0)", 0);
        }
    }

    private void heightsAndDrops() {
        s.of("T5", "One may be thrown no higher than 9", "9").is("broken()", 0).is("call(0)", 9);
        s.of("T5", "a HEAVY one 6", "6").does("kind(0, 1)").is("broken()", 0).text("7").does("kind(0, 1)").is("broken()", 1)
            .is("call(0)", 6);
        s.of("T5", "an EGG 4.", "4").does("kind(0, 2)").is("broken()", 0).text("5").does("kind(0, 2)").is("broken()", 1)
            .text("6").does("kind(0, 2)").is("broken()", 1);
        s.of("T5", "BROKEN: BALLS of a GOOD PATTERN that are thrown higher than they may some time.", "531")
            .does("kind(0, 2)", "kind(1, 2)", "kind(2, 2)").is("broken()", 5).does("turn(1)").is("broken()", 6)
            .text("19").does("kind(4, 1)").is("broken()", 16).text("88888880").does("kind(6, 1)").is("broken()", 64)
            .text("99999999").does("kind(8, 2)", "kind(9, 2)").is("broken()", 256)
            .text("17").does("kind(3, 1)", "kind(0, 1)").is("broken()", 9)
            // the latest there are: in beat 47 and in beat 31 for the first time
            .text("55566669").does("kind(5, 1)").is("broken()", 32).text("33333449").does("kind(3, 2)").is("broken()", 8);
        s.of("T5", "DROPPED are some BALLS (a set of 0 .. 9):", "9").is("drop(0)", 0).is("drop(1023)", 0).is("drop(512)", 1023)
            .is("empty(999)", 0).is("drop(511)", 512).is("empty(999)", 1000).is("drop(1024)", -2).is("drop(-1)", -2);
        s.of("T5", "beats in which they would be thrown are EMPTY.", "504").is("drop(4)", 0).is("empty(2)", 0).is("empty(3)", 1)
            .is("empty(7)", 1).is("empty(8)", 2).is("drop(1)", 4).is("empty(0)", 1).is("empty(4)", 1).is("empty(5)", 2)
            .is("drop(7)", 1).is("empty(999)", 667);
    }

    private void kind() {
        s.of("P21", "A BALL becomes of a kind: of which it was.").is("kind(0, 2)", 0).is("kind(0, 1)", 2).is("kind(0, 0)", 1)
            .is("kind(9, 1)", 0).is("kind(9, 1)", 1).is("kind(8, 0)", 0).text("543").is("kind(9, 2)", 0).is("kind(9, 0)", 2);
        s.of("P21", "UNKNOWN: BALL (0 .. 9);").is("kind(-1, 0)", -1).is("kind(10, 0)", -1).is("kind(-1, 3)", -1)
            .is("kind(10, -1)", -1).is("kind(max, 0)", -1).is("kind(min, 0)", -1).is("kind(9, 0)", 0);
        s.of("P21", "OUTSIDE.").is("kind(0, 1)", 0).is("kind(0, 3)", -2).is("kind(0, -1)", -2).is("kind(0, max)", -2)
            .is("kind(0, min)", -2).is("kind(0, 1)", 1);
    }

    private void broken() {
        s.of("P22", "BROKEN, as a set.", "7").is("broken()", 0).does("kind(0, 1)", "kind(6, 2)", "kind(7, 2)")
            .is("broken()", 1 + 64).does("drop(1)").is("broken()", 65).does("kind(0, 0)").is("broken()", 64)
            .text("0").does("kind(0, 2)").is("broken()", 0);
        s.of("P22", "STATE: the PATTERN is not GOOD, there is none.").is("broken()", -3).text("98").does("kind(0, 2)")
            .is("broken()", -3).text("531").is("broken()", 0);
    }

    private void drop() {
        s.of("P23", "DROPPED become a set (0 .. 1023): which they were.", "531").is("drop(0)", 0).is("drop(1023)", 0)
            .is("drop(1)", 1023).is("drop(512)", 1).is("drop(0)", 512).text("543").is("drop(7)", 0).is("drop(7)", 7);
        s.of("P23", "OUTSIDE;").is("drop(-1)", -2).is("drop(1024)", -2).text("531").does("drop(5)").is("drop(-1)", -2)
            .is("drop(1024)", -2).is("drop(max)", -2).is("drop(min)", -2).is("drop(5)", 5);
        s.of("P23", "STATE: there is no PATTERN.").is("drop(0)", -3).is("drop(1023)", -3).text("3").is("drop(0)", 0);
    }

    private void empty() {
        s.of("P24", "How many of the beats 0 .. b (0 .. 999) are EMPTY.", "531").is("empty(999)", 0).does("drop(1)")
            .is("empty(0)", 1).is("empty(4)", 1).is("empty(5)", 2).is("empty(6)", 3).does("drop(2)").is("empty(0)", 0)
            .is("empty(1)", 1).does("drop(7)").is("empty(0)", 1).is("empty(999)", 1000).is("empty(998)", 999)
            .text("0").does("drop(1023)").is("empty(999)", 0);
        s.of("P24", "OUTSIDE;").is("empty(-1)", -2).is("empty(1000)", -2).text("543").is("empty(-1)", -2).is("empty(1000)", -2)
            .text("531").is("empty(-1)", -2).is("empty(1000)", -2).is("empty(max)", -2).is("empty(min)", -2);
        s.of("P24", "STATE: it is not GOOD, there is none.").is("empty(0)", -3).is("empty(999)", -3).text("543").does("drop(1)")
            .is("empty(0)", -3).is("empty(999)", -3);
    }
}
