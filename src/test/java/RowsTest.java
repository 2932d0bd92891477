/** Boundary cases of the host's rows: what a cell keeps, what a copy brings, which tries come. */
public final class RowsTest {
    private static final Checks CHECKS = new Checks("RowsTest");

    public static void main(String[] args) {
        lowestBits();
        freshRows();
        copiesOfAllSorts();
        copiesOverThemselves();
        copiesAtTheEnds();
        triesUpToTheEnd();
        triesAheadOfTheEnd();
        triesThatAreNone();
        triesAsOfShown();
        sortsOfTries();
        CHECKS.end();
    }

    private static void due(String what, long got, long want) {
        CHECKS.due(what, got, want);
    }

    private static ThreeBalls green() {
        ThreeBalls x = new ThreeBalls();
        x.stall(0, 1010, 1, 5);
        x.hand(0, 0, 0);
        return x;
    }

    private static void fill(ThreeBalls x, int sheet, int... items) {
        for (int i = 0; i < items.length; i++) due("30: becomes", x.cell(sheet, i, items[i]), 1);
    }

    /** What an item holds, if that is a place: it is tried as an aim, by a row of four. */
    private static int told(ThreeBalls x, int sheet, int sort) {
        if (x.tries(sheet, sort, 0, 1) != 1) return -1;
        return x.tryTold(x.count(2) - 1, 2);
    }

    private static void lowestBits() {
        int[] values = {0, 1, 19, 100, 119, 120, 127, 128, 200, 219, 255, 256, 257, 275, 356, 375, 376, -1, -137, -128, -256, -255, 1919,
            1920, 32767, 32768, 65535, 65536, 65537, 67455, 67456, -65536, -65535, -63617, -63616, 1 << 24, (1 << 24) + 5,
            Integer.MAX_VALUE, Integer.MIN_VALUE, Integer.MIN_VALUE + 7};
        for (int sort = 0; sort < 3; sort++) {
            ThreeBalls x = green();
            x.sheet(sort, sort, 4);
            for (int v : values) {
                int kept = sort == 0 ? (v & 255) - 2 * (v & 128) : sort == 1 ? (v & 65535) - 2 * (v & 32768) : v;
                boolean isPlace = kept >= 0 && kept <= 1919 && kept % 100 <= 19;
                due("30: any number is taken", x.cell(sort, 2, v), 1);
                due("30: sort " + sort + ", " + v, told(x, sort, sort), isPlace ? kept : -1);
            }
        }
    }

    private static void freshRows() {
        for (int sort = 0; sort < 3; sort++) {
            ThreeBalls x = green();
            x.sheet(0, sort, 40);
            due("29: all 0", x.tries(0, sort, 0, 10), 10);
            for (int t = 0; t < 10; t++) {
                for (int what = 0; what < 4; what++) due("29: all 0", x.tryTold(t, what), 0);
            }
            fill(x, 0, 0, 0, 7, 1);
            due("29: no other sheet came", x.cell(1, 0, 0), -11);
            x.sheet(1, sort, 4);
            due("29: the other is 0", told(x, 1, sort), 0);
            due("29: this one stays", told(x, 0, sort), 7);
            x.sheet(0, sort, 4);
            due("29: anew it is 0", told(x, 0, sort), 0);
            x.sheet(0, -1, 4);
            due("29: missing", x.tries(0, sort, 0, 0), -11);
            x.sheet(0, sort, 4);
            due("29: there again, 0", told(x, 0, sort), 0);
        }
    }

    private static void copiesOfAllSorts() {
        for (int sort = 0; sort < 3; sort++) {
            for (int other = 0; other < 3; other++) {
                ThreeBalls x = green();
                x.sheet(0, sort, 4);
                x.sheet(1, other, 4);
                fill(x, 0, 0, 0, 119, 1);
                due("31: sorts " + sort + ", " + other, x.copy(0, 0, 1, 0, 4), sort == other ? 4 : -13);
                due("31: sorts " + sort + ", " + other, told(x, 1, other), sort == other ? 119 : 0);
                due("31: it stays", told(x, 0, sort), 119);
            }
            ThreeBalls x = green();
            x.sheet(2, sort, 9);
            x.sheet(3, sort, 4);
            fill(x, 2, 9, 9, 9, 0, 0, 17, 1, 9, 9);
            due("31: from the middle", x.copy(2, 3, 3, 0, 4), 4);
            due("31: from the middle", told(x, 3, sort), 17);
            fill(x, 3, 0, 0, 5, 0);
            due("31: one item alone", x.copy(3, 2, 2, 5, 1), 1);
            due("32: from the middle", x.tries(2, sort, 3, 1), 1);
            due("31: one item alone", x.tryTold(1, 2), 5);
            due("31: the next stays", x.tryTold(1, 3), 1);
        }
    }

    /** As the items were, also where both rows are the same one. */
    private static void copiesOverThemselves() {
        for (int by = -4; by <= 4; by++) {
            ThreeBalls x = green();
            x.sheet(0, 2, 16);
            x.sheet(1, 2, 4);
            for (int i = 0; i < 16; i++) x.cell(0, i, 100 + i);
            due("31: over itself by " + by, x.copy(0, 5, 0, 5 + by, 6), 6);
            for (int i = 0; i < 16; i++) {
                x.copy(0, i, 1, 2, 1);
                boolean isNew = i >= 5 + by && i < 11 + by;
                due("31: over itself by " + by + ", item " + i, told(x, 1, 2), 100 + (isNew ? i - by : i));
            }
        }
    }

    private static void copiesAtTheEnds() {
        ThreeBalls x = green();
        x.sheet(0, 1, 40);
        x.sheet(1, 1, 6);
        int max = Integer.MAX_VALUE;
        int min = Integer.MIN_VALUE;
        // from, to, n, answer
        int[][] rows = {
            {0, 0, 6, 6}, {34, 0, 6, 6}, {35, 0, 6, -12}, {34, 0, 7, -12}, {39, 5, 1, 1}, {40, 5, 1, -12}, {39, 6, 1, -12}, {40, 6, 0, 0},
            {41, 6, 0, -12}, {40, 7, 0, -12}, {-1, 0, 0, -12}, {0, -1, 0, -12}, {0, 0, -1, -12}, {40, 6, -1, -12}, {1, 1, -1, -12},
            {max, 0, 0, -12}, {0, max, 0, -12}, {0, 0, max, -12}, {1, 1, max, -12}, {max, max, max, -12}, {min, 0, 0, -12},
            {0, min, 0, -12}, {0, 0, min, -12}, {min, min, min, -12}, {max, 0, 1, -12}, {0, max, 1, -12}, {min, 0, max, -12},
        };
        for (int[] r : rows) due("31: from " + r[0] + " to " + r[1] + ", " + r[2], x.copy(0, r[0], 1, r[1], r[2]), r[3]);
    }

    private static void triesUpToTheEnd() {
        for (int size = 0; size <= 12; size++) {
            for (int from = -5; from <= 13; from++) {
                for (int n = 0; n <= 3; n++) {
                    ThreeBalls x = green();
                    x.sheet(0, 2, size);
                    int fit = 0;
                    while (fit < n && from >= 0 && from + 4 * fit + 4 <= size) fit++;
                    String which = "32: " + n + " of " + size + " from " + from;
                    due(which, x.tries(0, 2, from, n), fit < n ? -12 : n);
                    due(which + ": what stood ahead came", x.count(2), fit);
                }
            }
        }
        ThreeBalls x = green();
        x.sheet(0, 2, 40);
        int[] far = {Integer.MAX_VALUE, Integer.MAX_VALUE - 3, Integer.MAX_VALUE - 4, Integer.MIN_VALUE, Integer.MIN_VALUE + 4, -4, -40};
        for (int from : far) due("32: from " + from, x.tries(0, 2, from, 10), -12);
        due("32: none came", x.count(2), 0);
    }

    private static void triesAheadOfTheEnd() {
        ThreeBalls x = green();
        x.set(0, 3, 1);
        x.sheet(0, 1, 11);
        fill(x, 0, 0, 0, 4, 1, 9, 9, 9, 9, 0, 0, 8);
        due("32: the third is a part", x.tries(0, 1, 0, 3), -12);
        due("32: one came, one was none", x.count(2), 1);
        due("32: aim", x.tryTold(0, 2), 4);
        due("32: won", x.tryTold(0, 3), 1);
        due("32: set as it was", x.tryTold(0, 4), 1);
        due("32: no others", x.tryTold(1, 2), ThreeBalls.NONE);
    }

    private static void triesThatAreNone() {
        // Each of the four numbers wrong on either side, then none wrong.
        int[][] rows = {{-1, 0, 5, 0}, {1, 0, 5, 0}, {0, -1, 5, 0}, {0, 1, 5, 0}, {0, 0, -1, 0}, {0, 0, 20, 0}, {0, 0, 2000, 0}, {0, 0, 5, -1},
            {0, 0, 5, 2}};
        for (int[] r : rows) {
            ThreeBalls x = green();
            x.sheet(0, 2, 8);
            fill(x, 0, r[0], r[1], r[2], r[3], 0, 0, 1919, 1);
            due("32: others are left out", x.tries(0, 2, 0, 2), 1);
            due("32: one came", x.count(2), 1);
            due("32: it is the first", x.tryTold(0, 2), 1919);
        }
        ThreeBalls x = green();
        x.sheet(0, 2, 40);
        for (int i = 0; i < 10; i++) x.cell(0, 4 * i + 3, i % 2 == 0 ? 2 : 1);
        due("32: five of ten", x.tries(0, 2, 0, 10), 5);
        due("32: all won", x.count(7), 5);
    }

    private static void triesAsOfShown() {
        ThreeBalls x = new ThreeBalls();
        for (int i = 0; i < 8; i++) x.stall(0, 0, 0, 1);
        for (int i = 0; i < 6; i++) x.hand(0, 0, 0);
        x.set(7, 3, 1);
        x.sheet(0, 1, 12);
        fill(x, 0, 7, 5, 1919, 1, 0, 0, 0, 0, 3, 2, 1900, 0);
        due("32: three", x.tries(0, 1, 0, 3), 3);
        int[][] want = {{7, 5, 1919, 1, 1}, {0, 0, 0, 0, 0}, {3, 2, 1900, 0, 0}};
        for (int t = 0; t < 3; t++) {
            for (int what = 0; what < 5; what++) due("32: try " + t + " what " + what, x.tryTold(t, what), want[t][what]);
        }
        due("32: the sheet stays", x.tries(0, 1, 4, 2), 2);
        due("32: so many", x.count(2), 5);
    }

    private static void sortsOfTries() {
        for (int sort = 0; sort < 3; sort++) {
            for (int as = 0; as < 3; as++) {
                ThreeBalls x = green();
                x.sheet(3, sort, 4);
                due("32: sort " + sort + " taken for " + as, x.tries(3, as, 0, 1), sort == as ? 1 : -13);
                due("32: sort " + sort + " taken for " + as + ", outside", x.tries(3, as, 1, 1), sort == as ? -12 : -13);
                due("32: sort " + sort + " taken for " + as + ", none", x.tries(3, as, 0, 0), sort == as ? 0 : -13);
                x.sheet(3, -1, 4);
                due("32: missing, taken for " + as, x.tries(3, as, 0, 1), -11);
            }
        }
    }
}
