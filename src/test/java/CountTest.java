/** Promises 18 to 20: howMany, way, filled. */
public final class CountTest {
    private static final Due due = new Due();
    private static final long LOST = Due.LOST;

    public static void main(String[] args) {
        howMany();
        howManyRefuses();
        way();
        wayRefuses();
        filled();
        filledRefusesInOrder();
        due.end();
    }

    private static void howMany() {
        ThrowRows x = new ThrowRows();
        for (int period = 1; period <= 4; period++) {
            for (int balls = 0; balls <= 9; balls++) {
                for (int top = 0; top <= 9; top++) {
                    due.is("18 howMany " + period + " " + balls + " " + top,
                            x.howMany(period, balls, top), counted(period, balls, top));
                }
            }
        }
        // with throws as high as they like there would be (balls + 1) ^ n - balls ^ n
        due.is("18", x.howMany(8, 1, 9), 255);
        due.is("18", x.howMany(5, 1, 9), 31);
        due.is("18", x.howMany(8, 3, 9), 36479);
        due.is("18", x.howMany(8, 9, 9), 1);
        due.is("18", x.howMany(8, 0, 0), 1);
        due.is("18", x.howMany(8, 9, 8), 0);
    }

    /** Counts all rows of THROWS one by one. */
    private static int counted(int period, int balls, int top) {
        int all = 1;
        for (int i = 0; i < period; i++) {
            all *= top + 1;
        }
        int count = 0;
        for (int number = 0; number < all; number++) {
            int rest = number;
            int sum = 0;
            int landings = 0;
            for (int i = 0; i < period; i++) {
                int height = rest % (top + 1);
                rest /= top + 1;
                sum += height;
                landings |= 1 << (i + height) % period;
            }
            if (landings == (1 << period) - 1 && sum == balls * period) {
                count++;
            }
        }
        return count;
    }

    private static void howManyRefuses() {
        ThrowRows x = new ThrowRows();
        x.put(0, 0, 0);
        due.is("18 period 0", x.howMany(0, 1, 1), LOST);
        due.is("18 period 9", x.howMany(9, 1, 1), LOST);
        due.is("18 balls -1", x.howMany(1, -1, 1), LOST);
        due.is("18 balls 10", x.howMany(1, 10, 1), LOST);
        due.is("18 top -1", x.howMany(1, 1, -1), LOST);
        due.is("18 top 10", x.howMany(1, 1, 10), LOST);
        due.is("18 names no fault", x.fault(), 1);
    }

    private static void way() {
        wayIs(7, 7, 5, "");
        wayIs(7, 13, 5, "44");
        wayIs(7, 22, 5, "445");
        wayIs(13, 7, 9, "1");
        wayIs(7, 448, 9, "999");
        wayIs(1, 256, 9, "9");
        wayIs(85, 170, 9, "8");
        wayIs(0, 0, 0, "");
        wayIs(448, 7, 0, "000000");
        wayIs(256, 1, 3, "00000000");
        wayIs(2, 2, 0, "");
        wayIs(511, 511, 9, "");
        wayIs(510, 255, 9, "0");
        wayIs(1, 1, 0, "");
        noWay(7, 448, 3);
        noWay(3, 5, 2);
        noWay(1, 2, 0);
        oneObjectManyWays();
    }

    private static void oneObjectManyWays() {
        ThrowRows x = new ThrowRows();
        for (int time = 0; time < 3; time++) {
            due.is("19 again", x.way(7, 448, 9, -1), 3);
            due.is("19 again", x.way(7, 22, 5, 2), 5);
            due.is("19 again", x.way(7, 448, 3, -1), -9);
            due.is("19 again", x.way(448, 7, 0, 5), 0);
        }
    }

    private static void wayIs(int from, int to, int top, String row) {
        ThrowRows x = new ThrowRows();
        String told = "19 way " + from + " " + to + " " + top;
        due.is(told, x.way(from, to, top, -1), row.length());
        for (int q = 0; q < row.length(); q++) {
            due.is(told + " " + q, x.way(from, to, top, q), row.charAt(q) - '0');
        }
        due.is(told + " fewer", x.way(from, to, top, row.length()), -9);
        due.is(told + " fewer", x.way(from, to, top, Integer.MAX_VALUE), -9);
    }

    private static void noWay(int from, int to, int top) {
        ThrowRows x = new ThrowRows();
        for (int q = -1; q < 4; q++) {
            due.is("19 no way " + from + " " + to + " " + top, x.way(from, to, top, q), -9);
        }
    }

    private static void wayRefuses() {
        ThrowRows x = new ThrowRows();
        due.is("19 outside ahead of unknown", x.way(-1, 0, 5, -2), -2);
        due.is("19 from 512", x.way(512, 1, 5, -1), -2);
        due.is("19 to -1", x.way(1, -1, 5, -1), -2);
        due.is("19 to 512", x.way(1, 512, 5, -1), -2);
        due.is("19 unlike many bits", x.way(3, 1, 5, -2), -2);
        due.is("19 top -1", x.way(1, 1, -1, -2), -2);
        due.is("19 top 10", x.way(1, 1, 10, -1), -2);
        due.is("19 unknown", x.way(1, 1, 9, -2), -1);
        due.is("19 unknown, though no way", x.way(3, 5, 2, Integer.MIN_VALUE), -1);
    }

    private static void filled() {
        filledIs(3, new int[] {-1, -1, -1}, 37, 0, 0, 9);
        filledIs(3, new int[] {-1, 3, -1}, 5, 0, 3, 6);
        filledIs(3, new int[] {-1, -1, 1}, 6, 1, 7, 1);
        filledIs(3, new int[] {5, 3, 1}, 1, 5, 3, 1);
        filledIs(3, new int[] {4, 4, 2}, 0);
        filledIs(3, new int[] {5, 4, 3}, 0);
        filledIs(4, new int[] {5, 3, 1}, 0);
        filledIs(0, new int[] {-1, 0}, 1, 0, 0);
        filledIs(9, new int[] {-1}, 1, 9);
        filledIs(9, new int[] {-1, 9, 9, 9, 9, 9, 9, -1}, 1, 9, 9, 9, 9, 9, 9, 9, 9);
        filledIs(8, new int[] {-1, -1, 9, 9, 9, 9, 9, 9}, 3, 1, 9, 9, 9, 9, 9, 9, 9);
        filledIs(7, new int[] {-1, -1, 9, 9, 9, 9, 9, 9}, 2, 1, 1, 9, 9, 9, 9, 9, 9);
        filledIs(6, new int[] {-1, -1, 9, 9, 9, 9, 9, 9}, 0);
        filledIs(5, new int[] {-1, -1}, 9, 1, 9);
    }

    private static void filledIs(int balls, int[] row, int many, int... first) {
        ThrowRows x = new ThrowRows();
        Due.numbers(x, 2, row);
        String told = "20 filled " + java.util.Arrays.toString(row) + " " + balls;
        due.is(told, x.filled(2, 2, 0, row.length, balls, -1), many);
        for (int q = 0; q < row.length; q++) {
            due.is(told + " " + q, x.filled(2, 2, 0, row.length, balls, q), many == 0 ? LOST : first[q]);
        }
        due.is(told + " no fault", x.fault(), 0);
    }

    private static void filledRefusesInOrder() {
        ThrowRows x = new ThrowRows();
        Due.numbers(x, 1, 10, -1, 3, -2, 9, 0, 0, 0, 0, 0, 0, 0);
        lost(x, "sheet -1", -1, 9, 0, 1, 3, -1, 0);
        lost(x, "sheet 4", 4, 2, 0, 1, 3, -1, 0);
        lost(x, "sort -1", 1, -1, 0, 1, 3, -1, 0);
        lost(x, "sort 3", 1, 3, 0, 1, 3, -1, 0);
        lost(x, "balls -1 ahead of CAST", 1, 0, 0, 1, -1, -1, 0);
        lost(x, "balls 10 ahead of NULL", 0, 0, 0, 1, 10, -1, 0);
        lost(x, "CAST ahead of SIZE", 1, 0, -1, -1, 3, -9, 2);
        lost(x, "NULL ahead of SIZE", 0, 0, -1, -1, 3, -9, 1);
        lost(x, "SIZE ahead of INDEX", 1, 2, -1, -1, 3, -9, 4);
        lost(x, "INDEX", 1, 2, -1, 1, 3, -1, 3);
        lost(x, "INDEX beyond ahead of n 0", 1, 2, 13, 0, 3, -1, 3);
        lost(x, "INDEX ahead of n 13", 1, 2, 0, 13, 3, -1, 3);
        lost(x, "INDEX far", 1, 2, 5, Integer.MAX_VALUE, 3, -1, 3);
        lost(x, "n 0", 1, 2, 12, 0, 3, -1, 0);
        lost(x, "n 9", 1, 2, 3, 9, 3, -1, 0);
        lost(x, "a cell 10", 1, 2, 0, 1, 3, -1, 0);
        lost(x, "a cell -2", 1, 2, 2, 2, 3, -1, 0);
        lost(x, "q -2", 1, 2, 1, 1, 3, -2, 0);
        lost(x, "q n", 1, 2, 1, 1, 3, 1, 0);
        lost(x, "q far", 1, 2, 1, 1, 3, Integer.MAX_VALUE, 0);
        due.is("20 from the middle", x.filled(1, 2, 1, 2, 3, -1), x.howMany(1, 3, 9));
        due.is("20 from the middle", x.filled(1, 2, 1, 2, 3, 0), 3);
        x.sheet(0, 0, 1);
        x.put(0, 0, 255);
        due.is("20 an open byte", x.filled(0, 0, 0, 1, 7, 0), 7);
    }

    private static void lost(ThrowRows x, String what, int... a) {
        x.as(0, 2);
        due.is("20 " + what, x.filled(a[0], a[1], a[2], a[3], a[4], a[5]), LOST);
        due.is("20 " + what + ", fault", x.fault(), a[6]);
    }
}
