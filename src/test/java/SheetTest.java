/** Promises 25 to 29, 34 and 35: sheet, lose, put, cell, copy, fault, many. */
public final class SheetTest {
    private static final Due due = new Due();
    private static final long LOST = Due.LOST;

    public static void main(String[] args) {
        sheet();
        lose();
        put();
        cell();
        copy();
        copyRefusesInOrder();
        faultStaysAcrossOtherCalls();
        many();
        due.end();
    }

    private static void sheet() {
        ThrowRows x = new ThrowRows();
        due.is("25 unknown ahead of outside", x.sheet(-1, 3, 41), -1);
        due.is("25 unknown ahead of outside", x.sheet(4, 3, -1), -1);
        due.is("25 sort ahead of SIZE", x.sheet(0, 3, -1), -2);
        due.is("25 sort", x.sheet(0, -1, 1), -2);
        due.is("25 n", x.sheet(0, 0, 41), -2);
        due.is("34 refused", x.fault(), 0);
        due.is("25 SIZE", x.sheet(0, 0, -1), -14);
        due.is("34", x.fault(), 4);
        due.is("25 nothing has changed", x.lose(0), 0);
        due.is("25 none", x.sheet(0, 0, 0), 1);
        due.is("34", x.fault(), 0);
        due.is("25 none is not nothing", x.cell(0, 0, 0), LOST);
        due.is("34", x.fault(), 3);
        due.is("25 forty", x.sheet(3, 2, 40), 1);
        x.put(3, 39, 5);
        due.is("25 SIZE", x.sheet(3, 2, Integer.MIN_VALUE), -14);
        due.is("25 stays", x.cell(3, 39, 2), 5);
        due.is("25 anew", x.sheet(3, 2, 40), 1);
        due.is("25 anew: 0", x.cell(3, 39, 2), 0);
        x.put(3, 39, 5);
        x.sheet(3, 1, 3);
        x.sheet(3, 2, 40);
        due.is("25 anew: 0", x.cell(3, 39, 2), 0);
    }

    private static void lose() {
        ThrowRows x = new ThrowRows();
        due.is("26 unknown", x.lose(-1), -1);
        due.is("26 unknown", x.lose(4), -1);
        due.is("26 nothing", x.lose(3), 0);
        x.sheet(3, 0, 0);
        due.is("26", x.lose(3), 1);
        due.is("26", x.lose(3), 0);
        due.is("26 nothing", x.put(3, 0, 1), -11);
        due.is("26 names no fault", x.lose(3) * 0 + x.fault(), 1);
    }

    private static void put() {
        ThrowRows x = new ThrowRows();
        due.is("27 unknown", x.put(-1, 0, 0), -1);
        due.is("27 unknown", x.put(4, 0, 0), -1);
        due.is("27 NULL ahead of INDEX", x.put(2, -1, 0), -11);
        due.is("34", x.fault(), 1);
        x.sheet(2, 2, 3);
        due.is("27 INDEX", x.put(2, -1, 0), -13);
        due.is("34", x.fault(), 3);
        due.is("27 INDEX", x.put(2, 3, 0), -13);
        due.is("27 INDEX", x.put(2, Integer.MAX_VALUE, 0), -13);
        due.is("27", x.put(2, 2, 7), 1);
        due.is("34", x.fault(), 0);
        x.put(2, 3, 0);
        due.is("27 unknown", x.put(4, 3, 0), -1);
        due.is("34 refused", x.fault(), 0);
        cutIs(0, 127, 127);
        cutIs(0, 128, -128);
        cutIs(0, -129, 127);
        cutIs(0, 511, -1);
        cutIs(1, 32767, 32767);
        cutIs(1, 32768, -32768);
        cutIs(1, -32769, 32767);
        cutIs(1, 128, 128);
        cutIs(2, Integer.MIN_VALUE, Integer.MIN_VALUE);
        cutIs(2, 32768, 32768);
    }

    private static void cutIs(int sort, int v, int cut) {
        ThrowRows x = new ThrowRows();
        x.sheet(1, sort, 1);
        due.is("27 " + v, x.put(1, 0, v), 1);
        due.is("27 " + v + " of sort " + sort, x.cell(1, 0, sort), cut);
    }

    private static void cell() {
        ThrowRows x = new ThrowRows();
        x.sheet(1, 1, 2);
        x.put(1, 1, -7);
        due.is("28", x.cell(1, 1, 1), -7);
        due.is("28", x.cell(1, 0, 1), 0);
        lostCell(x, "unknown", -1, 0, 0, 0);
        lostCell(x, "unknown", 4, 0, 0, 0);
        lostCell(x, "sort ahead of NULL", 0, 0, 3, 0);
        lostCell(x, "sort ahead of CAST", 1, 0, -1, 0);
        lostCell(x, "NULL, no CAST", 0, -1, 2, 1);
        lostCell(x, "CAST ahead of INDEX", 1, -1, 0, 2);
        lostCell(x, "CAST ahead of INDEX", 1, 5, 2, 2);
        lostCell(x, "INDEX", 1, -1, 1, 3);
        lostCell(x, "INDEX", 1, 2, 1, 3);
        x.put(1, 2, 0);
        x.cell(1, 1, 1);
        due.is("34 no fault", x.fault(), 0);
        x.lose(1);
        lostCell(x, "NULL", 1, 0, 1, 1);
    }

    private static void lostCell(ThrowRows x, String what, int k, int i, int sort, int fault) {
        x.sheet(3, 0, -1);
        due.is("28 " + what, x.cell(k, i, sort), LOST);
        due.is("28 " + what + ", fault", x.fault(), fault);
    }

    private static void copy() {
        ThrowRows x = new ThrowRows();
        Due.numbers(x, 0, 1, 2, 3, 4, 5);
        Due.numbers(x, 1, 9, 9, 9);
        due.is("29", x.copy(0, 2, 1, 1, 2), 2);
        cellsAre("29", x, 1, 9, 3, 4);
        cellsAre("29", x, 0, 1, 2, 3, 4, 5);
        due.is("29 to itself, onward", x.copy(0, 0, 0, 1, 4), 4);
        cellsAre("29 to itself, onward", x, 0, 1, 1, 2, 3, 4);
        due.is("29 to itself, down", x.copy(0, 1, 0, 0, 4), 4);
        cellsAre("29 to itself, down", x, 0, 1, 2, 3, 4, 4);
        due.is("29 none at the ends", x.copy(0, 5, 1, 3, 0), 0);
        due.is("29 all", x.copy(1, 0, 1, 0, 3), 3);
        cellsAre("29 all", x, 1, 9, 3, 4);
    }

    private static void cellsAre(String what, ThrowRows x, int k, int... cells) {
        for (int i = 0; i < cells.length; i++) {
            due.is(what + ", cell " + i, x.cell(k, i, 2), cells[i]);
        }
    }

    private static void copyRefusesInOrder() {
        ThrowRows x = new ThrowRows();
        Due.numbers(x, 0, 1, 2, 3);
        Due.numbers(x, 1, 7, 8);
        x.sheet(2, 1, 3);
        due.is("29 NULL", x.copy(3, 0, 0, 0, 1), -11);
        due.is("29 unknown ahead of NULL", x.copy(3, 0, -1, 0, 1), -1);
        due.is("34 refused", x.fault(), 0);
        due.is("29 unknown", x.copy(4, 0, 0, 0, 1), -1);
        due.is("29 unknown", x.copy(0, 0, 4, 0, 1), -1);
        due.is("29 unknown", x.copy(-1, 0, 0, 0, 1), -1);
        due.is("29 NULL ahead of INDEX", x.copy(0, -1, 3, 0, 1), -11);
        due.is("34", x.fault(), 1);
        due.is("29 NULL to itself", x.copy(3, 0, 3, 0, 0), -11);
        due.is("29 CAST ahead of INDEX", x.copy(0, -1, 2, 0, 1), -12);
        due.is("34", x.fault(), 2);
        due.is("29 CAST, none taken", x.copy(0, 0, 2, 0, 0), -12);
        int[][] beyond = {{-1, 0, 1}, {0, -1, 1}, {0, 0, -1}, {0, 0, 3}, {1, 0, 3}, {0, 1, 2}, {4, 0, 0}, {0, 3, 0},
            {-1, 0, 0}, {0, -1, 0}, {1, 1, Integer.MAX_VALUE}, {Integer.MAX_VALUE, 0, 1}, {0, Integer.MAX_VALUE, 1},
            {0, 0, Integer.MIN_VALUE}};
        for (int[] a : beyond) {
            x.copy(0, 0, 1, 0, 0);
            due.is("34", x.fault(), 0);
            due.is("29 INDEX", x.copy(0, a[0], 1, a[1], a[2]), -13);
            due.is("34", x.fault(), 3);
        }
        cellsAre("29 nothing has changed", x, 1, 7, 8);
    }

    private static void faultStaysAcrossOtherCalls() {
        ThrowRows x = Due.with("531");
        x.put(0, 99, 0);
        x.throwOf(0);
        x.clash();
        x.good(9);
        x.state(0);
        x.ball(0);
        x.orbit(0);
        x.hands(2);
        x.beat(0, 0);
        x.swap(0, 9);
        x.turn(0);
        x.backward();
        x.greatest(0);
        x.keep(0);
        x.back(0);
        x.like(0);
        x.howMany(1, 1, 1);
        x.way(1, 1, 1, -1);
        x.kind(0, 0);
        x.broken();
        x.drop(0);
        x.empty(0);
        x.lose(0);
        x.tell(0);
        x.call(0);
        x.trace();
        x.fault();
        x.many(0);
        due.is("34 stays", x.fault(), 3);
        x.as(0, 0);
        due.is("34 then none", x.fault(), 0);
    }

    private static void many() {
        ThrowRows x = new ThrowRows();
        due.is("35 outside", x.many(-1), -2);
        due.is("35 outside", x.many(3), -2);
        due.is("35 no hands without a pattern", x.many(1), 0);
        Due.text(x, "531");
        due.is("35 period", x.many(0), 3);
        due.is("35 hands", x.many(1), 2);
        due.is("35 images", x.many(2), 0);
        x.keep(2);
        due.is("35 images", x.many(2), 1);
        x.keep(2);
        due.is("35 images", x.many(2), 1);
        x.keep(0);
        x.keep(1);
        due.is("35 images", x.many(2), 3);
    }
}
