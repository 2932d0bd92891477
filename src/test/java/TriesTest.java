/** Promises 9 to 12: tries. */
public final class TriesTest {
    private static final Checks CHECKS = new Checks("TriesTest");
    private static final int MIN = Integer.MIN_VALUE, MAX = Integer.MAX_VALUE;

    public static void main(String[] args) {
        promise9();
        promise10();
        promise11();
        promise12();
        CHECKS.end();
    }

    private static void due(String what, long got, long want) {
        CHECKS.due(what, got, want);
    }

    private static void promise9() {
        // Where a throw comes down is found by stalls that pay at their pegs alone.
        int[] seeds = {0, 1, 2, 77, 99999};
        for (int seed : seeds) {
            long lot = (seed + 1L) * 48271 % 2147483647;
            int landsX = 14 + 2 + (int) (lot % 7) - 3;
            int landsY = 6 - 1 + (int) (lot / 7 % 7) - 3;
            ThreeBalls x = new ThreeBalls();
            x.hand(2, -1, 3);
            x.stall(0, 100 * landsX + landsY, 0, 1);
            x.stall(0, 100 * (landsX - 1) + landsY, 0, 1);
            x.stall(0, 100 * landsX + landsY + 1, 0, 1);
            due("9: wins by " + seed, x.tried(0, 0, 1406, seed), 1);
            due("9: misses in x by " + seed, x.tried(1, 0, 1406, seed), 0);
            due("9: misses in y by " + seed, x.tried(2, 0, 1406, seed), 0);
            due("9: three came", x.count(2), 3);
            due("9: one won", x.count(7), 1);
        }
        // The first lot of seed 0 is 48271: 0 off in x and (by 16090) 0 off in y.
        ThreeBalls x = new ThreeBalls();
        x.stall(0, 1010, 0, 1);
        x.hand(0, 0, 1);
        due("9: seed 0 by hand", x.tried(0, 0, 1010, 0), 1);
        int[][] wrong = {
            {-1, 0, 0, 0}, {1, 0, 0, 0}, {0, -1, 0, 0}, {0, 1, 0, 0}, {0, 0, -1, 0}, {0, 0, 2000, 0}, {0, 0, 20, 0},
            {0, 0, 0, -1}, {0, 0, 0, 100000}, {MIN, MIN, MIN, MIN}, {0, 0, 0, MAX},
        };
        for (int[] w : wrong) {
            due("9: wrong", x.tried(w[0], w[1], w[2], w[3]), ThreeBalls.BAD);
        }
        due("9: one came", x.count(2), 1);
        for (int i = 1; i < 60; i++) {
            x.tried(0, 0, 1010, i);
        }
        due("9: sixty", x.count(2), 60);
        due("9: full", x.tried(0, 0, 1010, 5), ThreeBalls.FULL);
        due("9: wrong ahead of full", x.tried(0, 0, 1010, -1), ThreeBalls.BAD);
        due("9: still sixty", x.count(2), 60);
    }

    private static void promise10() {
        ThreeBalls x = new ThreeBalls();
        x.stall(0, 1010, 0, 1);
        x.hand(0, 0, 1);
        int[][] wrong = {
            {-1, 0, 0, 0}, {1, 0, 0, 0}, {0, -1, 0, 0}, {0, 1, 0, 0}, {0, 0, -1, 0}, {0, 0, 2000, 0}, {0, 0, 20, 0},
            {0, 0, 0, -1}, {0, 0, 0, 2}, {MIN, MAX, MIN, MAX},
        };
        for (int[] w : wrong) {
            due("10: wrong", x.shown(w[0], w[1], w[2], w[3]), ThreeBalls.BAD);
        }
        for (int i = 0; i < 60; i++) {
            due("10: number", x.shown(0, 0, 1919, i % 2), i);
        }
        due("10: full", x.shown(0, 0, 0, 0), ThreeBalls.FULL);
        due("10: wrong ahead of full", x.shown(0, 0, 0, 2), ThreeBalls.BAD);
        due("10: tried is full, too", x.tried(0, 0, 0, 0), ThreeBalls.FULL);
        due("10: won", x.count(7), 30);
    }

    private static void promise11() {
        ThreeBalls x = new ThreeBalls();
        x.stall(0, 1010, 0, 1);
        x.stall(4, 1010, 0, 1);
        x.hand(0, 0, 1);
        x.hand(0, 0, 0);
        due("11: none yet", x.tryTold(0, 0), ThreeBalls.NONE);
        x.set(1, 3, 1);
        x.shown(1, 1, 719, 1);
        x.set(1, 3, 0);
        x.shown(1, 0, 1907, 0);
        x.set(0, 3, 1);
        x.tried(0, 1, 1010, 4);
        int[][] want = {{1, 1, 719, 1, 1}, {1, 0, 1907, 0, 0}, {0, 1, 1010, 1, 1}};
        for (int t = 0; t < want.length; t++) {
            for (int what = 0; what < 5; what++) {
                due("11: try " + t + " what " + what, x.tryTold(t, what), want[t][what]);
            }
        }
        for (int i = 3; i < 60; i++) {
            x.shown(1, 1, 719, 1);
        }
        due("11: the last, won", x.tryTold(59, 3), 1);
        due("11: the last, set", x.tryTold(59, 4), 0);
        due("11: none behind it", x.tryTold(60, 0), ThreeBalls.NONE);
        int[][] wrong = {{-1, 0}, {60, 0}, {0, -1}, {0, 5}, {2, 5}, {MIN, 0}, {MAX, MAX}, {0, MAX}};
        for (int[] w : wrong) {
            due("11: wrong", x.tryTold(w[0], w[1]), ThreeBalls.NONE);
        }
    }

    private static void promise12() {
        ThreeBalls x = new ThreeBalls();
        x.stall(5, 1010, 2, 1);
        x.stall(0, 1010, 1, 1);
        x.hand(0, 0, 2);
        x.hand(0, 0, 5);
        due("12: without any", x.setAll(0, 8, 0), 1);
        due("12: without any", x.setAll(0, 8, 1), 1);
        x.shown(0, 0, 1010, 1);
        x.shown(1, 0, 1010, 0);
        x.shown(0, 0, 1010, 0);
        // Set: 3 of 25 win; not set: all 25.
        due("12: the last, if set", x.setAll(0, 1, 0), 22);
        due("12: the last, if not", x.setAll(0, 1, 1), 0);
        due("12: the last two, if set", x.setAll(0, 2, 0), 3 * 22);
        x.set(0, 3, 1);
        due("12: as it is set does not matter", x.setAll(0, 8, 0), 3 * 22);
        due("12: as it is set does not matter", x.setAll(0, 8, 1), 0);
        due("12: the other stall", x.setAll(1, 8, 1), 16);
        due("12: the other stall", x.setAll(1, 8, 0), 16);
        for (int i = 0; i < 9; i++) {
            x.shown(0, 1, 0, 0);
        }
        long all = 1;
        for (int i = 0; i < 8; i++) {
            all *= 121;
        }
        due("12: eight of 121", x.setAll(0, 8, 0), all);
        due("12: eight of 121", x.setAll(0, 8, 1), all);
        int[][] wrong = {{-1, 1, 0}, {2, 1, 0}, {0, 0, 0}, {0, 9, 0}, {0, -1, 0}, {0, 1, -1}, {0, 1, 2}, {MIN, MAX, MIN}};
        for (int[] w : wrong) {
            due("12: wrong", x.setAll(w[0], w[1], w[2]), ThreeBalls.NO);
        }
    }
}
