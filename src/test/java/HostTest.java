/** Promises 29 to 33: the host. */
public final class HostTest {
    private static final Checks CHECKS = new Checks("HostTest");
    private static final int MIN = Integer.MIN_VALUE, MAX = Integer.MAX_VALUE;

    public static void main(String[] args) {
        promise29();
        promise30();
        promise31();
        promise32();
        refusalsOfTries();
        promise33();
        CHECKS.end();
    }

    private static void due(String what, long got, long want) {
        CHECKS.due(what, got, want);
    }

    private static ThreeBalls green() {
        ThreeBalls x = new ThreeBalls();
        for (int i = 0; i < 8; i++) {
            x.stall(0, 1010, 1, 5);
        }
        for (int i = 0; i < 6; i++) {
            x.hand(0, 0, 0);
        }
        return x;
    }

    private static void fill(ThreeBalls x, int sheet, int... items) {
        for (int i = 0; i < items.length; i++) {
            x.cell(sheet, i, items[i]);
        }
    }

    private static void promise29() {
        ThreeBalls x = green();
        for (int sheet = 0; sheet < 4; sheet++) {
            due("29: made", x.sheet(sheet, sheet % 3, 40), 1);
            due("29: its last item", x.cell(sheet, 39, 1), 1);
            due("29: behind it", x.cell(sheet, 40, 1), -12);
        }
        due("29: of none", x.sheet(0, 0, 0), 1);
        due("29: of none", x.cell(0, 0, 1), -12);
        due("29: n 41", x.sheet(1, 0, 41), ThreeBalls.BAD);
        due("29: n below 0", x.sheet(1, 0, -1), -14);
        due("29: n least", x.sheet(1, 2, MIN), -14);
        due("29: stays as it was", x.cell(1, 39, 1), 1);
        due("29: no such sheet", x.sheet(4, 0, 1), ThreeBalls.BAD);
        due("29: no such sheet", x.sheet(-1, 0, -1), ThreeBalls.BAD);
        due("29: no such sort", x.sheet(1, 3, 1), ThreeBalls.BAD);
        due("29: no such sort", x.sheet(1, -2, -1), ThreeBalls.BAD);
        due("29: missing", x.sheet(1, -1, 7), 1);
        due("29: missing", x.cell(1, 0, 1), -11);
        due("29: missing, n does not matter", x.sheet(1, -1, 41), 1);
        due("29: missing, n does not matter", x.sheet(1, -1, -1), 1);
        x.sheet(2, 2, 4);
        fill(x, 2, 0, 0, 0, 1);
        x.sheet(2, 2, 4);
        x.tries(2, 2, 0, 1);
        due("29: all 0 again", x.tryTold(0, 3), 0);
    }

    private static void promise30() {
        ThreeBalls x = green();
        due("30: no such sheet", x.cell(-1, 0, 0), ThreeBalls.BAD);
        due("30: no such sheet", x.cell(4, -1, 0), ThreeBalls.BAD);
        due("30: missing", x.cell(0, -1, 0), -11);
        int[] aims = {256 + 119, 65536 + 1919, 1919};
        int[] kept = {119, 1919, 1919};
        for (int sort = 0; sort < 3; sort++) {
            x.sheet(sort, sort, 4);
            due("30: below", x.cell(sort, -1, 0), -12);
            due("30: behind", x.cell(sort, 4, 0), -12);
            due("30: far", x.cell(sort, MAX, 0), -12);
            due("30: becomes", x.cell(sort, 2, aims[sort]), 1);
            due("30: a try by it", x.tries(sort, sort, 0, 1), 1);
            due("30: its lowest bits", x.tryTold(sort, 2), kept[sort]);
        }
        x.cell(0, 2, 128);
        due("30: a byte below 0", x.tries(0, 0, 0, 1), 0);
        x.cell(1, 2, 65536 - 100);
        due("30: a short below 0", x.tries(1, 1, 0, 1), 0);
        x.cell(2, 2, 65536 + 1919);
        due("30: an int is not cut", x.tries(2, 2, 0, 1), 0);
    }

    private static void promise31() {
        ThreeBalls x = green();
        due("31: no such sheet", x.copy(-1, 0, 0, 0, 0), ThreeBalls.BAD);
        due("31: no such sheet", x.copy(0, 0, 4, 0, 0), ThreeBalls.BAD);
        due("31: the first missing", x.copy(0, 0, 1, 0, 0), -11);
        x.sheet(0, 2, 8);
        due("31: the other missing", x.copy(0, 0, 1, 0, 0), -11);
        due("31: the first missing", x.copy(1, -1, 0, 0, -1), -11);
        x.sheet(1, 1, 4);
        due("31: unlike sorts", x.copy(0, 0, 1, 0, 4), -13);
        due("31: unlike sorts, ahead of the place", x.copy(0, -1, 1, 0, -4), -13);
        x.sheet(1, 2, 4);
        int[][] outside = {
            {-1, 0, 1}, {0, -1, 1}, {0, 0, -1}, {0, 0, 5}, {5, 0, 4}, {0, 1, 4}, {9, 0, 0}, {0, 5, 0}, {MAX, 0, 1}, {0, MAX, 1},
            {0, 0, MAX}, {MAX, MAX, MAX}, {MIN, 0, 1}, {0, 0, MIN}, {1, 0, MAX},
        };
        for (int[] o : outside) {
            due("31: outside", x.copy(0, o[0], 1, o[1], o[2]), -12);
        }
        due("31: none at the end", x.copy(0, 8, 1, 4, 0), 0);
        fill(x, 0, 1, 2, 3, 1, 5, 4, 6, 0);
        due("31: four", x.copy(0, 4, 1, 0, 4), 4);
        due("31: a try by them", x.tries(1, 2, 0, 1), 1);
        int[] want = {5, 4, 6, 0};
        for (int what = 0; what < 4; what++) {
            due("31: as they were, " + what, x.tryTold(0, what), want[what]);
        }
        overlaps(x);
    }

    private static void overlaps(ThreeBalls x) {
        x.sheet(2, 2, 9);
        fill(x, 2, 1, 2, 3, 1, 0, 0, 0, 0, 0);
        due("31: over itself, on", x.copy(2, 0, 2, 1, 4), 4);
        x.tries(2, 2, 1, 1);
        fill(x, 2, 0, 0, 7, 1, 3, 0, 0, 0, 0);
        due("31: over itself, back", x.copy(2, 1, 2, 0, 4), 4);
        x.tries(2, 2, 0, 1);
        int[][] want = {{1, 2, 3, 1}, {0, 7, 1, 3}};
        for (int what = 0; what < 4; what++) {
            due("31: over itself, on, " + what, x.tryTold(1, what), want[0][what]);
        }
        due("31: 0 7 1 3 is no try", x.count(2), 2);
        fill(x, 2, 9, 3, 5, 7, 1, 9, 9, 9, 9);
        x.copy(2, 1, 2, 0, 4);
        x.tries(2, 2, 0, 1);
        int[] back = {3, 5, 7, 1};
        for (int what = 0; what < 4; what++) {
            due("31: over itself, back, " + what, x.tryTold(2, what), back[what]);
        }
    }

    private static void promise32() {
        ThreeBalls x = green();
        x.set(3, 3, 1);
        x.sheet(0, 1, 16);
        fill(x, 0, 9, 3, 2, 1919, 1, 8, 0, 0, 0, 7, 5, 0, 0);
        due("32: two come, one is left out", x.tries(0, 1, 1, 3), 2);
        int[][] want = {{3, 2, 1919, 1, 1}, {7, 5, 0, 0, 0}};
        for (int t = 0; t < 2; t++) {
            for (int what = 0; what < 5; what++) {
                due("32: try " + t + " what " + what, x.tryTold(t, what), want[t][what]);
            }
        }
        due("32: none of none", x.tries(0, 1, 0, 0), 0);
        due("32: what stood ahead came", x.tries(0, 1, 9, 2), -12);
        due("32: what stood ahead came", x.count(2), 3);
        due("32: a part of four is outside", x.tries(0, 1, 13, 1), -12);
        due("32: below 0", x.tries(0, 1, -4, 2), -12);
        due("32: far", x.tries(0, 1, MAX, 2), -12);
        due("32: far below", x.tries(0, 1, MIN, 2), -12);
        due("32: three still", x.count(2), 3);
        for (int i = 0; i < 55; i++) {
            x.shown(0, 0, 0, 0);
        }
        x.sheet(1, 0, 40);
        due("32: two have room, eight are left out", x.tries(1, 0, 0, 10), 2);
        due("32: none has room", x.tries(1, 0, 0, 10), 0);
        due("32: sixty", x.count(2), 60);
    }

    private static void refusalsOfTries() {
        ThreeBalls x = green();
        x.sheet(0, 1, 4);
        int[][] wrong = {{-1, 0, 0, 0}, {4, 0, 0, 0}, {0, -1, 0, 0}, {0, 3, 0, 0}, {0, 1, 0, -1}, {0, 1, 0, 11}, {MIN, MAX, 0, MIN}};
        for (int[] w : wrong) {
            due("32: wrong", x.tries(w[0], w[1], w[2], w[3]), ThreeBalls.BAD);
        }
        due("32: wrong ahead of missing", x.tries(1, 3, 0, 0), ThreeBalls.BAD);
        due("32: missing", x.tries(1, 1, -1, 1), -11);
        due("32: of another sort", x.tries(0, 0, 0, 1), -13);
        due("32: of another sort, ahead of the place", x.tries(0, 2, -1, 1), -13);
        x.sheet(0, -1, 0);
        due("32: missing again", x.tries(0, 0, 0, 1), -11);
        due("32: none came", x.count(2), 0);
    }

    private static void promise33() {
        ThreeBalls x = new ThreeBalls();
        for (int kind = 0; kind < 6; kind++) {
            x.stall(kind, 0, 1, kind + 20);
        }
        String[] under = {"0", "01", "02", "023", "04", "015"};
        for (int stall = 0; stall < 6; stall++) {
            for (int k = 0; k < 6; k++) {
                boolean fits = under[stall].indexOf('0' + k) >= 0;
                due("33: " + stall + " taken for " + k, x.taken(stall, k), fits ? stall + 20 : -13);
            }
        }
        due("33: no kind", x.taken(0, -1), ThreeBalls.BAD);
        due("33: no kind", x.taken(0, 6), ThreeBalls.BAD);
        due("33: no kind ahead of no stall", x.taken(-1, 6), ThreeBalls.BAD);
        due("33: no stall", x.taken(-1, 0), -11);
        due("33: no stall", x.taken(6, 0), -11);
        due("33: no stall", x.taken(8, 5), -11);
        due("33: no stall", x.taken(MAX, 0), -11);
    }
}
