/** How many calls there may be, and the words of "Terms" ahead of the first term. */
final class CommonSentences {
    private final Sentences s;

    private CommonSentences(Sentences s) {
        this.s = s;
    }

    static void test(Sentences s) {
        CommonSentences these = new CommonSentences(s);
        these.use();
        these.refusals();
        these.whichFaults();
        these.howFaultsAreAnswered();
        these.noneAndSets();
    }

    private void use() {
        Run x = s.of("use", "An object is used for at most 512 calls after it has been made; what later calls answer is free.");
        x.text("97531");
        int trace = 0;
        for (int call = 7; call < 510; call++) {
            x.is("call(0)", 9);
            trace = 31 * trace + 4;
        }
        x.is("trace()", trace).is("good(0)", 5).is("ball(999)", 0);
    }

    private void refusals() {
        s.of("T0", "REFUSALS, in the order in which a call's line tells them:", "543")
            .is("way(512, 0, 10, -2)", -2).is("way(1, 1, 9, -2)", -1)
            .is("kind(10, 3)", -1).is("kind(9, 3)", -2)
            .is("beat(1000, 3)", -2).is("beat(999, 2)", -3)
            .is("state(3)", -1).is("state(2)", -3)
            .text("09").is("swap(1, 0)", -1).is("swap(0, 1)", -3);
        s.of("T0", "UNKNOWN (there is no such BEAT, BALL, IMAGE, SHEET, place)", "531")
            .is("throwOf(3)", -1).is("throwOf(-1)", -1)
            .is("tell(10)", -1).is("tell(-1)", -1)
            .is("back(3)", -1).is("back(-1)", -1)
            .is("lose(4)", -1).is("lose(-1)", -1)
            .is("way(7, 7, 5, -2)", -1).is("way(7, 7, 5, min)", -1);
        s.of("T0", "OUTSIDE (another number is not as told)", "531")
            .is("good(5)", -2).is("good(-1)", -2).is("ball(1000)", -2).is("hands(0)", -2).is("turn(8)", -2)
            .is("drop(1024)", -2).is("many(3)", -2).is("sheet(0, 3, 1)", -2).is("as(0, 3)", -2);
        s.of("T0", "STATE (as told)")
            .is("clash()", -3).is("back(0)", -3).text("543").is("backward()", -3).is("swap(1, 2)", 1)
            .text("203").is("swap(0, 2)", 1).text("103").is("swap(0, 2)", -3);
        s.of("T0", "FULL", "19").is("swap(0, 1)", -4).row("19");
        s.of("T0", "they change nothing", "7531")
            .does("hands(3)", "drop(6)", "kind(1, 2)", "keep(1)")
            .is("swap(3, 0)", -1).is("turn(8)", -2).is("hands(5)", -2).is("drop(1024)", -2).is("kind(1, 3)", -2)
            .is("keep(3)", -1).is("back(0)", -3).is("sheet(0, 0, 41)", -2).is("pattern(0, 3, 0, 4)", -2)
            .row("7531").is("many(1)", 3).is("many(2)", 1).is("drop(6)", 6).is("kind(1, 2)", 2)
            .cells(0, 0, '7', '5', '3', '1');
        s.of("T0", "(but fault(), of a call that names FAULTS)", "531")
            .is("put(0, 3, 0)", -13).is("fault()", 3)
            .is("good(5)", -2).is("fault()", 3).is("howMany(9, 0, 0)", Due.LOST).is("fault()", 3)
            .is("put(4, 3, 0)", -1).is("fault()", 0);
    }

    private void whichFaults() {
        s.of("T0", "FAULTS are the machine's: 1 NULL (there is nothing)")
            .is("put(2, 0, 0)", -11).is("fault()", 1)
            .is("sheet(2, 0, 0)", 1).is("put(2, 0, 0)", -13).is("lose(2)", 1).is("put(2, 0, 0)", -11);
        s.of("T0", "2 CAST (it is of another sort, kind)")
            .is("sheet(2, 1, 4)", 1).is("cell(2, 0, 0)", Due.LOST).is("fault()", 2)
            .is("cell(2, 0, 1)", 0).is("fault()", 0)
            .is("cell(2, 0, 2)", Due.LOST).is("fault()", 2)
            .is("as(0, 0)", 1).is("fault()", 0).is("as(0, 1)", -12).is("fault()", 2);
        s.of("T0", "3 INDEX")
            .numbers(1, 4, 5).is("put(1, 2, 0)", -13).is("fault()", 3).is("put(1, -1, 0)", -13)
            .is("put(1, max, 0)", -13).is("put(1, min, 0)", -13).is("put(1, 1, 0)", 1).is("put(1, 0, 0)", 1);
        s.of("T0", "(of cells from i on also where i is not 0 .. how many there are, if none of them is taken, too)", "531")
            .is("pattern(0, 0, 3, 0)", -100).is("fault()", 0)
            .is("pattern(0, 0, 4, 0)", -13).is("fault()", 3)
            .is("pattern(0, 0, 0, 0)", -100).is("fault()", 0)
            .is("pattern(0, 0, -1, 0)", -13).is("fault()", 3)
            .is("filled(0, 0, 3, 0, 3, -1)", Due.LOST).is("fault()", 0)
            .is("filled(0, 0, 4, 0, 3, -1)", Due.LOST).is("fault()", 3)
            .is("copy(0, 3, 0, 3, 0)", 0).is("fault()", 0)
            .is("copy(0, 4, 0, 3, 0)", -13).is("fault()", 3)
            .is("copy(0, 3, 0, 4, 0)", -13).is("copy(0, -1, 0, 0, 0)", -13).is("copy(0, 0, 0, -1, 0)", -13);
        s.of("T0", "4 SIZE (a length below 0)", "531")
            .is("sheet(0, 0, -1)", -14).is("fault()", 4).is("sheet(0, 0, 0)", 1).is("fault()", 0)
            .is("pattern(0, 0, 0, -1)", -14).is("fault()", 4).is("pattern(0, 0, 0, 0)", -100).is("fault()", 0);
    }

    private void howFaultsAreAnswered() {
        s.of("T0", "Of a call the first that is come to, in the order told;", "531")
            .is("pattern(0, 1, -1, -1)", -12).is("pattern(3, 1, -1, -1)", -11)
            .is("pattern(0, 0, -1, -1)", -14).is("pattern(0, 0, -1, 0)", -13)
            .is("put(3, -1, 0)", -11).is("cell(0, 3, 1)", Due.LOST).is("fault()", 2)
            .is("sheet(1, 1, 3)", 1).is("copy(0, -1, 3, -1, -1)", -11).is("copy(0, -1, 1, -1, -1)", -12);
        s.of("T0", "it answers -10 less it")
            .is("put(0, 0, 0)", -10 - 1).is("as(0, 2)", -10 - 2).text("3").is("put(0, 1, 0)", -10 - 3)
            .is("sheet(0, 0, -1)", -10 - 4);
        s.of("T0", "(LOST, where a long is answered, as for refusals)", "3")
            .is("cell(1, 0, 0)", Due.LOST).is("cell(0, 0, 1)", Due.LOST).is("cell(0, 1, 0)", Due.LOST)
            .is("cell(4, 0, 0)", Due.LOST).is("cell(0, 0, 3)", Due.LOST)
            .is("filled(0, 0, 0, -1, 0, -1)", Due.LOST).is("howMany(0, 0, 0)", Due.LOST);
        s.of("T0", "and changes nothing; fault() tells it.", "531")
            .is("sheet(0, 1, -1)", -14).is("fault()", 4).is("fault()", 4)
            .is("pattern(0, 0, 1, 3)", -13).is("fault()", 3)
            .is("copy(0, 0, 0, 1, 3)", -13).is("fault()", 3)
            .is("as(0, 1)", -12).is("fault()", 2).is("kind(0, 0)", 0)
            .row("531").cells(0, 0, '5', '3', '1');
    }

    private void noneAndSets() {
        s.of("T0", "NONE is -9.", "531").is("clash()", -9).text("40").is("ball(1)", -9).is("way(1, 2, 0, -1)", -9);
        s.of("T0", "Sets are told as bits (bit k for number k).", "9")
            .does("kind(0, 2)", "kind(3, 2)", "kind(8, 2)").is("broken()", 1 + 8 + 256)
            .is("drop(256)", 0).is("empty(7)", 0).is("empty(8)", 1).is("drop(1)", 256).is("empty(0)", 1)
            .is("empty(8)", 1).is("empty(9)", 2);
    }
}
