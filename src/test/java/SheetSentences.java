/** Term 6 and promises 25 to 35. */
final class SheetSentences {
    private static final long LOST = Due.LOST;

    private final Sentences s;

    private SheetSentences(Sentences s) {
        this.s = s;
    }

    static void test(Sentences s) {
        SheetSentences these = new SheetSentences(s);
        these.sheets();
        these.tellings();
        these.sheetAndLose();
        these.put();
        these.cell();
        these.copy();
        these.copyFaults();
        these.tellAndCall();
        these.as();
        these.traceAndFault();
        these.many();
    }

    private void sheets() {
        s.of("T6", "SHEETS 0 .. 3 have nothing (at first)").are("lose(", 0, 0, 0, 0).is("lose(4)", -1).is("lose(-1)", -1)
            .is("sheet(0, 0, 1)", 1).is("sheet(3, 0, 1)", 1).is("sheet(4, 0, 1)", -1).is("sheet(-1, 0, 1)", -1);
        s.of("T6", "or a row of 0 .. 40 numbers").is("sheet(0, 0, 0)", 1).cells(0, 0).is("put(0, 0, 1)", -13)
            .is("sheet(0, 2, 40)", 1).is("put(0, 39, 7)", 1).is("put(0, 40, 7)", -13).is("cell(0, 39, 2)", 7)
            .is("sheet(0, 2, 41)", -2).is("sheet(0, 2, -1)", -14).is("cell(0, 39, 2)", 7);
        s.of("T6", "(0 at first)").is("sheet(1, 1, 3)", 1).cells(1, 1, 0, 0, 0).does("put(1, 0, 5)", "put(1, 2, 5)")
            .is("sheet(1, 1, 3)", 1).cells(1, 1, 0, 0, 0).does("put(1, 2, 5)", "sheet(1, 1, 1)", "sheet(1, 1, 3)")
            .cells(1, 1, 0, 0, 0).does("put(1, 2, 5)", "lose(1)", "sheet(1, 2, 3)").cells(1, 2, 0, 0, 0);
        s.of("T6", "of a SORT: 0 bytes, 1 shorts, 2 ints;").is("sheet(0, 0, 1)", 1).is("sheet(1, 1, 1)", 1)
            .is("sheet(2, 2, 1)", 1).is("cell(0, 0, 0)", 0).is("cell(1, 0, 1)", 0).is("cell(2, 0, 2)", 0)
            .is("sheet(3, 3, 1)", -2).is("sheet(3, -1, 1)", -2);
        s.of("T6", "what comes to a cell of it is cut to its SORT (with its sign).").does("sheet(0, 0, 8)", "sheet(1, 1, 7)")
            .does("put(0, 0, 127)", "put(0, 1, 128)", "put(0, 2, -128)", "put(0, 3, -129)", "put(0, 4, 255)", "put(0, 5, 256)",
                "put(0, 6, max)", "put(0, 7, min)")
            .cells(0, 0, 127, -128, -128, 127, -1, 0, -1, 0)
            .does("put(1, 0, 32767)", "put(1, 1, 32768)", "put(1, 2, -32769)", "put(1, 3, 65535)", "put(1, 4, 65536)",
                "put(1, 5, 128)", "put(1, 6, max)")
            .cells(1, 1, 32767, -32768, 32767, -1, 0, 128, -1)
            .numbers(2, 65536, Integer.MAX_VALUE, Integer.MIN_VALUE).cells(2, 2, 65536, Integer.MAX_VALUE, Integer.MIN_VALUE);
    }

    private void tellings() {
        s.of("T6", "TELLING of BALLS by bodies that leave their number in TRACE").is("trace()", 0).is("tell(3)", 3).is("trace()", 1)
            .is("call(3)", 9).is("trace()", 31 + 4).is("as(3, 0)", 1).is("kind(3, 0)", 0).is("trace()", 35);
        Run x = s.of("T6", "(an int that wraps, 0 at first, becomes 31 times it and the number)");
        int trace = 0;
        x.is("trace()", 0);
        for (int time = 0; time < 20; time++) {
            x.is("tell(0)", 0);
            trace = 31 * trace + 1;
            x.is("trace()", trace);
        }
        // bodies that left their number at their ends would leave 1 ahead of 2
        s.of("T6", "as they begin:").does("kind(0, 1)").is("tell(0)", 100).is("trace()", 2 * 31 + 1);
        s.of("T6", "BALL (1): its number.").is("tell(0)", 0).is("trace()", 1).is("tell(9)", 9).is("trace()", 32);
        s.of("T6", "HEAVY (2): what BALL's gives, and 100.").does("kind(7, 1)").is("tell(7)", 107).is("trace()", 63);
        s.of("T6", "EGG (3): what HEAVY's gives, and what BALL's gives (HEAVY's left out).").does("kind(7, 2)").is("tell(7)", 114)
            .is("trace()", ((3 * 31 + 2) * 31 + 1) * 31 + 1).does("kind(0, 2)").is("tell(0)", 100);
        s.of("T6", "CALLED by a lent body (4): how high it may go;").is("call(0)", 9).is("trace()", 4).does("kind(0, 1)")
            .is("call(0)", 6).is("trace()", 4 * 31 + 4);
        s.of("T6", "EGGS have their own (5): 70.").does("kind(0, 2)").is("call(0)", 70).is("trace()", 5).is("call(1)", 9)
            .is("trace()", 5 * 31 + 4);
    }

    private void sheetAndLose() {
        s.of("P25", "A SHEET gets a new row: 1.").is("sheet(3, 1, 2)", 1).cells(3, 1, 0, 0).does("put(3, 1, 9)")
            .is("sheet(3, 0, 1)", 1).cells(3, 0, 0).is("sheet(3, 2, 0)", 1).cells(3, 2).is("lose(2)", 0).is("lose(3)", 1);
        s.of("P25", "UNKNOWN;").is("sheet(-1, 0, 1)", -1).is("sheet(4, 0, 1)", -1).is("sheet(4, 3, 41)", -1)
            .is("sheet(-1, 0, -1)", -1).is("fault()", 0).is("sheet(max, 0, 1)", -1).is("sheet(min, 0, 1)", -1);
        s.of("P25", "OUTSIDE: sort, n above 40;").is("sheet(0, -1, 1)", -2).is("sheet(0, 3, 1)", -2).is("sheet(0, 3, -1)", -2)
            .is("sheet(0, 0, 41)", -2).is("sheet(0, 0, max)", -2).is("fault()", 0).is("lose(0)", 0).is("sheet(0, 0, 40)", 1);
        s.of("P25", "SIZE.").is("sheet(0, 0, -1)", -14).is("fault()", 4).is("sheet(0, 2, min)", -14).is("lose(0)", 0)
            .does("sheet(0, 1, 2)", "put(0, 1, 5)").is("sheet(0, 0, -1)", -14).cells(0, 1, 0, 5).is("sheet(0, 0, 0)", 1)
            .is("fault()", 0);
        s.of("P26", "A SHEET has nothing: 1;", "531").is("lose(0)", 1).is("put(0, 0, 0)", -11).is("sheet(2, 0, 0)", 1)
            .is("lose(2)", 1).is("cell(2, 0, 0)", LOST).is("fault()", 1).row("531");
        s.of("P26", "0: it had nothing.").is("lose(3)", 0).does("sheet(3, 0, 1)").is("lose(3)", 1).is("lose(3)", 0)
            .is("lose(0)", 0);
        s.of("P26", "UNKNOWN.").is("lose(-1)", -1).is("lose(4)", -1).is("lose(max)", -1).is("lose(min)", -1);
    }

    private void put() {
        s.of("P27", "Cell i of a SHEET becomes v: 1.").does("sheet(0, 2, 3)", "sheet(1, 2, 3)").is("put(0, 0, 5)", 1)
            .is("put(0, 2, -7)", 1).cells(0, 2, 5, 0, -7).cells(1, 2, 0, 0, 0).is("put(0, 2, 8)", 1).cells(0, 2, 5, 0, 8);
        s.of("P27", "UNKNOWN;").is("put(-1, 0, 0)", -1).is("put(4, -1, 0)", -1).is("fault()", 0).is("put(max, 0, 0)", -1)
            .is("put(min, 0, 0)", -1);
        s.of("P27", "NULL;").is("put(0, 0, 1)", -11).is("put(3, -1, 1)", -11).is("fault()", 1).is("lose(0)", 0);
        s.of("P27", "INDEX.").numbers(0, 4, 5).is("put(0, -1, 9)", -13).is("put(0, 2, 9)", -13).is("put(0, max, 9)", -13)
            .is("put(0, min, 9)", -13).is("fault()", 3).cells(0, 2, 4, 5).is("put(0, 1, 9)", 1).is("fault()", 0)
            .does("sheet(0, 0, 0)").is("put(0, 0, 9)", -13);
    }

    private void cell() {
        s.of("P28", "Cell i of what a SHEET has, taken as a row of a SORT.").does("sheet(0, 0, 2)", "sheet(1, 1, 2)", "sheet(2, 2, 2)")
            .does("put(0, 1, -8)", "put(1, 1, -300)", "put(2, 1, -70000)").is("cell(0, 1, 0)", -8).is("cell(1, 1, 1)", -300)
            .is("cell(2, 1, 2)", -70000).is("cell(0, 0, 0)", 0).is("fault()", 0);
        s.of("P28", "LOST: UNKNOWN").is("as(0, 1)", -12).is("cell(-1, 0, 0)", LOST).is("fault()", 0).is("as(0, 1)", -12)
            .is("cell(4, 0, 0)", LOST).is("fault()", 0).is("cell(max, 0, 0)", LOST).is("cell(min, 0, 0)", LOST);
        s.of("P28", "OUTSIDE: sort;").is("as(0, 1)", -12).is("cell(0, 0, 3)", LOST).is("fault()", 0).is("as(0, 1)", -12)
            .is("cell(0, 0, -1)", LOST).is("fault()", 0).is("sheet(0, 0, 1)", 1).is("cell(0, 0, 3)", LOST).is("fault()", 0);
        s.of("P28", "FAULTS CAST").does("sheet(0, 1, 2)").is("cell(0, 0, 0)", LOST).is("fault()", 2).is("cell(0, 5, 2)", LOST)
            .is("fault()", 2).is("cell(0, 1, 1)", 0).does("sheet(0, 0, 0)").is("cell(0, 0, 1)", LOST).is("fault()", 2);
        s.of("P28", "(nothing is no CAST), NULL").is("cell(0, 0, 0)", LOST).is("fault()", 1).is("cell(0, -1, 1)", LOST)
            .is("fault()", 1).is("cell(3, 0, 2)", LOST).is("fault()", 1);
        s.of("P28", "INDEX.").does("sheet(0, 0, 2)").is("cell(0, -1, 0)", LOST).is("fault()", 3).is("cell(0, 2, 0)", LOST)
            .is("fault()", 3).is("cell(0, max, 0)", LOST).is("cell(0, min, 0)", LOST).is("fault()", 3).is("cell(0, 1, 0)", 0)
            .is("fault()", 0);
    }

    private void copy() {
        s.of("P29", "n cells of a SHEET from i on go to another one").numbers(0, 1, 2, 3, 4).numbers(1, 9, 9, 9)
            .is("copy(0, 2, 1, 1, 2)", 2).cells(1, 2, 9, 3, 4).cells(0, 2, 1, 2, 3, 4).is("copy(1, 0, 0, 3, 1)", 1)
            .cells(0, 2, 1, 2, 3, 9);
        s.of("P29", "(perhaps the same) from j on, as they were: n.").numbers(0, 1, 2, 3, 4, 5).is("copy(0, 0, 0, 1, 4)", 4)
            .cells(0, 2, 1, 1, 2, 3, 4).is("copy(0, 1, 0, 0, 4)", 4).cells(0, 2, 1, 2, 3, 4, 4).is("copy(0, 0, 0, 0, 5)", 5)
            .cells(0, 2, 1, 2, 3, 4, 4).is("copy(0, 5, 0, 5, 0)", 0).is("copy(0, 0, 0, 5, 0)", 0).is("fault()", 0)
            .does("sheet(1, 0, 3)", "put(1, 0, -1)", "put(1, 1, 100)").is("copy(1, 0, 1, 1, 2)", 2).cells(1, 0, -1, -1, 100);
        s.of("P29", "UNKNOWN;").is("copy(-1, 0, 0, 0, 0)", -1).is("copy(4, 0, 0, 0, 0)", -1).is("copy(0, 0, -1, 0, 0)", -1)
            .is("copy(0, 0, 4, 0, 0)", -1).is("fault()", 0).is("copy(max, 0, 0, 0, 0)", -1).is("copy(0, 0, min, 0, 0)", -1);
    }

    private void copyFaults() {
        s.of("P29", "FAULTS NULL (the first, the other)").is("copy(0, 0, 1, 0, 0)", -11).is("copy(0, 0, 0, 0, 0)", -11)
            .does("sheet(1, 1, 1)").is("copy(0, -1, 1, 0, 1)", -11).is("copy(1, 0, 0, -1, 1)", -11).is("fault()", 1)
            .is("lose(0)", 0);
        s.of("P29", "CAST (unlike SORTS)").does("sheet(0, 0, 2)", "sheet(1, 1, 2)", "sheet(2, 2, 2)").is("copy(0, 0, 1, 0, 1)", -12)
            .is("copy(1, 0, 0, 0, 1)", -12).is("copy(2, 0, 1, 0, 0)", -12).is("copy(0, -1, 2, 9, -1)", -12).is("fault()", 2)
            .is("copy(0, 0, 0, 0, 2)", 2).is("fault()", 0);
        s.of("P29", "INDEX: i, j, n below 0 or beyond.").numbers(0, 1, 2, 3).numbers(1, 7, 8)
            .is("copy(0, -1, 1, 0, 1)", -13).is("copy(0, 0, 1, -1, 1)", -13).is("copy(0, 0, 1, 0, -1)", -13).is("fault()", 3)
            .is("copy(0, 4, 1, 0, 0)", -13).is("copy(0, 0, 1, 3, 0)", -13).is("copy(0, 2, 1, 0, 2)", -13)
            .is("copy(0, 0, 1, 1, 2)", -13).is("copy(0, 0, 1, 0, 3)", -13).is("copy(1, 0, 0, 0, 3)", -13)
            .is("copy(0, 1, 1, 1, max)", -13).is("copy(0, max, 1, 0, max)", -13).is("copy(0, 0, 1, max, max)", -13)
            .is("copy(0, 0, 1, 0, min)", -13).is("copy(0, min, 1, min, min)", -13).is("fault()", 3)
            .cells(0, 2, 1, 2, 3).cells(1, 2, 7, 8).is("copy(0, 1, 1, 0, 2)", 2).is("fault()", 0).cells(1, 2, 2, 3);
    }

    private void tellAndCall() {
        s.of("P30", "TELLING of a BALL.").does("kind(4, 1)", "kind(9, 2)").is("tell(0)", 0).is("tell(4)", 104).is("tell(9)", 118)
            .is("kind(9, 0)", 2).is("tell(9)", 9);
        s.of("P30", "UNKNOWN.").is("tell(-1)", -1).is("tell(10)", -1).is("tell(max)", -1).is("tell(min)", -1).is("trace()", 0);
        s.of("P31", "How it is CALLED.").does("kind(4, 1)", "kind(9, 2)").is("call(0)", 9).is("call(4)", 6).is("call(9)", 70)
            .is("trace()", (4 * 31 + 4) * 31 + 5);
        s.of("P31", "UNKNOWN.").is("call(-1)", -1).is("call(10)", -1).is("call(max)", -1).is("call(min)", -1).is("trace()", 0);
    }

    private void as() {
        s.of("P32", "A BALL, taken as one of a kind: 1.").is("as(9, 0)", 1).does("kind(9, 1)").is("as(9, 1)", 1)
            .does("kind(9, 2)").is("as(9, 2)", 1).is("kind(9, 0)", 2).is("trace()", 0);
        s.of("P32", "UNKNOWN;").is("as(-1, 0)", -1).is("as(10, 0)", -1).is("as(10, 3)", -1).is("as(-1, -1)", -1)
            .is("as(max, 0)", -1).is("as(min, 0)", -1);
        s.of("P32", "OUTSIDE;").is("as(0, 1)", -12).is("as(0, 3)", -2).is("fault()", 0).is("as(0, -1)", -2).is("as(0, max)", -2)
            .is("as(0, min)", -2);
        s.of("P32", "CAST: it is none").is("as(0, 1)", -12).is("fault()", 2).is("as(0, 2)", -12).does("kind(0, 1)")
            .is("as(0, 2)", -12).is("as(0, 1)", 1).is("fault()", 0);
        s.of("P32", "(each is a BALL, too; an EGG is HEAVY).").is("as(0, 0)", 1).does("kind(0, 1)").is("as(0, 0)", 1)
            .does("kind(0, 2)").is("as(0, 0)", 1).is("as(0, 1)", 1);
    }

    private void traceAndFault() {
        s.of("P33", "TRACE.").is("trace()", 0).is("tell(0)", 0).is("trace()", 1).is("trace()", 1).text("3").is("trace()", 1);
        s.of("P34", "The FAULT of the latest call that names one:", "531").is("put(1, 0, 0)", -11).is("fault()", 1)
            .is("pattern(0, 1, 0, 3)", -12).is("fault()", 2).is("cell(0, 3, 0)", LOST).is("fault()", 3)
            .is("sheet(0, 0, -1)", -14).is("fault()", 4).is("copy(1, 0, 0, 0, 1)", -11).is("fault()", 1)
            .is("filled(0, 1, 0, 1, 0, 0)", LOST).is("fault()", 2).is("throwOf(9)", -1).is("lose(1)", 0).is("tell(0)", 0)
            .is("howMany(9, 9, 9)", LOST).is("way(1, 3, 9, 0)", -2).is("drop(1024)", -2).is("fault()", 2)
            .is("put(0, 9, 9)", -13).is("fault()", 3).is("as(0, 1)", -12).is("fault()", 2);
        faultIsNone("531", "as(0, 0)", 1);
        faultIsNone("531", "put(0, 0, 0)", 1);
        faultIsNone("531", "cell(0, 0, 0)", '5');
        faultIsNone("531", "copy(0, 0, 0, 0, 3)", 3);
        faultIsNone("531", "sheet(0, 0, 3)", 1);
        faultIsNone("531", "pattern(0, 0, 0, 3)", 3);
        faultIsNone("531", "pattern(0, 0, 0, 0)", -100);
        faultIsNone("0", "filled(0, 0, 0, 1, 0, 0)", LOST);
        refusalIsNone("as(10, 2)", -1);
        refusalIsNone("as(0, 3)", -2);
        refusalIsNone("put(4, 0, 0)", -1);
        refusalIsNone("cell(4, 0, 0)", LOST);
        refusalIsNone("cell(0, 0, 3)", LOST);
        refusalIsNone("copy(4, 0, 0, 0, 0)", -1);
        refusalIsNone("copy(0, 0, 4, 0, 0)", -1);
        refusalIsNone("sheet(4, 0, -1)", -1);
        refusalIsNone("sheet(0, 3, -1)", -2);
        refusalIsNone("sheet(0, 0, 41)", -2);
        refusalIsNone("pattern(4, 0, 0, 0)", -1);
        refusalIsNone("pattern(0, 3, 0, 0)", -2);
        refusalIsNone("filled(4, 0, 0, 0, 0, 0)", LOST);
        refusalIsNone("filled(0, 3, 0, 0, 0, 0)", LOST);
        refusalIsNone("filled(0, 0, 0, 1, 10, 0)", LOST);
        s.of("P34", "(0 ahead of any).").is("fault()", 0).is("lose(0)", 0).is("good(0)", -3).is("fault()", 0);
    }

    private void faultIsNone(String text, String call, long want) {
        s.of("P34", "0: it came to none", text).is("as(0, 1)", -12).is("fault()", 2).is(call, want).is("fault()", 0);
    }

    private void refusalIsNone(String call, long want) {
        s.of("P34", "or was refused").is("as(0, 1)", -12).is("fault()", 2).is(call, want).is("fault()", 0);
    }

    private void many() {
        s.of("P35", "How many: 0 PERIOD").is("many(0)", 0).text("12345678").is("many(0)", 8).text("3").is("many(0)", 1)
            .text("x", -100).is("many(0)", 1);
        s.of("P35", "1 HANDS (0 without a PATTERN)").is("many(1)", 0).is("hands(3)", -3).is("many(1)", 0).text("3").is("many(1)", 2)
            .does("hands(4)").is("many(1)", 4).does("hands(1)").is("many(1)", 1);
        s.of("P35", "2 IMAGES there are.", "3").is("many(2)", 0).does("keep(2)").is("many(2)", 1).does("keep(2)").is("many(2)", 1)
            .does("keep(0)").is("many(2)", 2).does("keep(1)").is("many(2)", 3).does("back(1)").is("many(2)", 3);
        s.of("P35", "OUTSIDE.").is("many(-1)", -2).is("many(3)", -2).is("many(max)", -2).is("many(min)", -2);
    }
}
