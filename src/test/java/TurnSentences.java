/** Term 3 and promises 11 to 17. */
final class TurnSentences {
    private final Sentences s;

    private TurnSentences(Sentences s) {
        this.s = s;
    }

    static void test(Sentences s) {
        TurnSentences these = new TurnSentences(s);
        these.swapsAndTurns();
        these.backwardAndGreatest();
        these.swap();
        these.turn();
        these.backward();
        these.greatest();
        these.keepAndBack();
        these.like();
    }

    private void swapsAndTurns() {
        s.of("T3", "A SWAP of BEATS i, j (i < j): each lands where the other one did:", "441")
            .is("swap(0, 1)", 1).row("531").is("swap(0, 1)", 1).row("441").is("clash()", -9)
            .is("swap(1, 2)", 1).row("423").is("good(0)", 3);
        s.of("T3", "THROW i becomes THROW j and (j less i)", "34000000").is("swap(0, 1)", 1).row("52000000")
            .text("30000006").is("swap(0, 7)", -3).text("70000002").is("swap(0, 7)", 1).row("90000000");
        s.of("T3", "THROW j becomes THROW i less (j less i).", "90000002").is("swap(0, 7)", 1).row("90000002")
            .text("05020000").is("swap(1, 3)", 1).row("04030000");
        s.of("T3", "TURNED by k: BEAT 0 becomes what BEAT k was, and so on around.", "01234567")
            .is("turn(7)", 7).row("70123456").is("turn(1)", 0).row("01234567").is("turn(3)", 3).row("34567012")
            .is("turn(0)", 3).row("34567012").text("531").is("turn(3)", 5).row("531").is("turn(4)", 3).row("315")
            .is("turn(7)", 1).row("153").text("3").is("turn(7)", 3).row("3");
    }

    private void backwardAndGreatest() {
        s.of("T3", "BACKWARD: BEAT by BEAT as it is seen run backward: what lands in BEAT j is thrown in BEAT "
                + "(n less 1 less j) then, as far.", "0134")
            .is("backward()", 4).row("4130").text("450").is("backward()", 0).row("045").text("9").is("backward()", 9).row("9")
            .text("11111119").is("backward()", 1).row("11111119").text("00000008").is("backward()", 8).row("80000000")
            .text("423").is("backward()", 3).row("342").is("backward()", 4).row("423");
        s.of("T3", "GREATEST form: of all TURNED ones the greatest, as a row (THROW 0 the first).", "01234567")
            .are("greatest(", 7, 0, 1, 2, 3, 4, 5, 6).text("45").are("greatest(", 5, 4).text("51525").are("greatest(", 5, 5, 1, 5, 2)
            .text("19919").are("greatest(", 9, 9, 1, 9, 1).text("33").are("greatest(", 3, 3);
        s.of("T3", "IMAGES 0 .. 2 are PATTERNS (rows of THROWS);", "543").is("keep(-1)", -1).is("keep(3)", -1)
            .are("keep(", 1, 1, 1).text("9").is("back(0)", 3).row("543").text("9").is("back(2)", 3).row("543");
        s.of("T3", "none at first.", "3").is("many(2)", 0).are("back(", -3, -3, -3);
    }

    private void swap() {
        s.of("P11", "A SWAP: 1.", "7531").is("swap(0, 3)", 1).row("4534").is("swap(2, 3)", 1).row("4552");
        s.of("P11", "UNKNOWN: BEATS").is("swap(0, 1)", -1).text("3333").is("swap(-1, 1)", -1).is("swap(0, 4)", -1)
            .is("swap(4, 5)", -1).is("swap(-2, -1)", -1).is("swap(min, 1)", -1).is("swap(0, max)", -1).is("swap(min, max)", -1)
            .row("3333").is("swap(0, 3)", 1).row("6330");
        s.of("P11", "(j is not above i: so, too)", "3333").is("swap(1, 1)", -1).is("swap(0, 0)", -1).is("swap(2, 1)", -1)
            .is("swap(3, 0)", -1).row("3333").is("swap(1, 2)", 1).row("3423");
        s.of("P11", "STATE: a THROW would be below 0;", "09").is("swap(0, 1)", -3).row("09").text("13").is("swap(0, 1)", 1)
            .row("40").text("20000000").is("swap(0, 3)", -3).is("swap(0, 2)", 1).row("20000000").text("00000099")
            .is("swap(5, 7)", -3);
        s.of("P11", "FULL: above 9.", "19").is("swap(0, 1)", -4).row("19").text("18").is("swap(0, 1)", 1).row("90")
            .text("90000003").is("swap(0, 7)", -4).row("90000003");
    }

    private void turn() {
        s.of("P12", "TURNED by k (0 .. 7): THROW of BEAT 0 then.", "7531").is("turn(0)", 7).row("7531").is("turn(7)", 1)
            .row("1753").is("turn(5)", 7).row("7531").text("543").is("turn(1)", 4).row("435");
        s.of("P12", "OUTSIDE;").is("turn(-1)", -2).is("turn(8)", -2).text("7531").is("turn(-1)", -2).is("turn(8)", -2)
            .is("turn(max)", -2).is("turn(min)", -2).row("7531");
        s.of("P12", "STATE: there is no PATTERN.").is("turn(0)", -3).is("turn(7)", -3);
    }

    private void backward() {
        s.of("P13", "BACKWARD: THROW of BEAT 0 then.", "0134").is("backward()", 4).is("throwOf(0)", 4).row("4130")
            .is("backward()", 0).row("0134").text("3").is("backward()", 3).row("3");
        s.of("P13", "STATE: it is not GOOD, there is none.").is("backward()", -3).text("543").is("backward()", -3).row("543");
    }

    private void greatest() {
        s.of("P14", "GREATEST form: THROW of a BEAT.", "315").are("greatest(", 5, 3, 1).row("315").text("543").does("turn(1)")
            .are("greatest(", 5, 4, 3).row("435").text("0").is("greatest(0)", 0);
        s.of("P14", "UNKNOWN.").is("greatest(0)", -1).text("315").is("greatest(-1)", -1).is("greatest(3)", -1)
            .is("greatest(max)", -1).is("greatest(min)", -1).text("00000008").is("greatest(7)", 0).is("greatest(8)", -1);
    }

    private void keepAndBack() {
        s.of("P15", "The PATTERN becomes an IMAGE: 1.", "531").is("keep(2)", 1).is("many(2)", 1).text("40").is("keep(2)", 1)
            .is("many(2)", 1).text("9").is("back(2)", 2).row("40").is("swap(0, 1)", 1).row("13").is("back(2)", 2).row("40");
        s.of("P15", "UNKNOWN;").is("keep(-1)", -1).is("keep(3)", -1).text("531").is("keep(-1)", -1).is("keep(3)", -1)
            .is("keep(max)", -1).is("keep(min)", -1).is("many(2)", 0);
        s.of("P15", "STATE: there is no PATTERN.").are("keep(", -3, -3, -3).is("many(2)", 0);
        s.of("P16", "The PATTERN becomes what an IMAGE is", "7531").is("keep(0)", 1).text("40").is("back(0)", 4).row("7531")
            .is("turn(1)", 5).is("back(0)", 4).row("7531").is("good(0)", 4).text("01234567").is("back(0)", 4).is("throwOf(4)", -1);
        s.of("P16", "(all else stays)", "7531").does("keep(0)").text("40").does("hands(4)", "drop(9)", "kind(8, 2)", "keep(1)",
                "tell(8)", "put(0, 9, 9)")
            .is("back(0)", 4).is("fault()", 3).is("many(1)", 4).is("drop(9)", 9).is("kind(8, 2)", 2).is("many(2)", 2)
            .is("trace()", ((3 * 31 + 2) * 31 + 1) * 31 + 1).cells(0, 0, '4', '0').is("back(1)", 2).row("40");
        s.of("P16", "its PERIOD.", "90125678").does("keep(1)").text("3").is("back(1)", 8).is("many(0)", 8);
        s.of("P16", "UNKNOWN;").is("back(-1)", -1).is("back(3)", -1).text("531").is("back(-1)", -1).is("back(3)", -1)
            .is("back(max)", -1).is("back(min)", -1).row("531");
        s.of("P16", "STATE: there is none.").are("back(", -3, -3, -3).text("531").does("keep(1)").is("back(0)", -3)
            .is("back(2)", -3).is("back(1)", 3).row("531");
    }

    private void like() {
        Run x = s.of("P17", "Whether the PATTERN is an IMAGE, TURNED in some way (1, 0).", "90125678");
        x.does("keep(0)");
        for (int k = 0; k < 8; k++) {
            x.does("back(0)", "turn(" + k + ")").is("like(0)", 1);
        }
        x.text("90125687").is("like(0)", 0).text("87652109").is("like(0)", 0).text("9012567").is("like(0)", 0)
            .text("9").is("like(0)", 0).does("keep(1)").is("like(1)", 1).text("99").is("like(1)", 0).does("keep(1)")
            .text("9").is("like(1)", 0).text("5151").does("keep(2)").text("1515").is("like(2)", 1).text("5511")
            .is("like(2)", 0).text("3934").does("keep(2)").text("4393").is("like(2)", 1).text("4383").is("like(2)", 0)
            .text("9").does("keep(2)").text("8").is("like(2)", 0);
        s.of("P17", "UNKNOWN;").is("like(-1)", -1).is("like(3)", -1).text("531").is("like(-1)", -1).is("like(3)", -1)
            .is("like(max)", -1).is("like(min)", -1);
        s.of("P17", "STATE: there is none, no PATTERN.").are("like(", -3, -3, -3).text("531").are("like(", -3, -3, -3)
            .does("keep(1)").are("like(", -3, 1, -3);
    }
}
