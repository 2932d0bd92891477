/** Boundary cases of kinds, hands, odds, best aims, lots and of what tries say. */
public final class KindsTest {
    private static final Checks CHECKS = new Checks("KindsTest");

    public static void main(String[] args) {
        plainBySize();
        heavyByHalf();
        tightBySign();
        sprungByNought();
        drawnByThrees();
        gaffedBySet();
        seenAndUnder();
        oddsAtTheEdge();
        oddsInLowestTerms();
        bestOfLikeOnes();
        bestWithinTheGreen();
        lotsThatWrap();
        lotsByScatter();
        setAsItWas();
        setAllOfTheLast();
        setAllOfKinds();
        CHECKS.end();
    }

    private static void due(String what, long got, long want) {
        CHECKS.due(what, got, want);
    }

    private static ThreeBalls of(int kind, int size, int boot) {
        ThreeBalls x = new ThreeBalls();
        x.stall(kind, 1010, size, 5);
        x.set(0, 3, boot);
        return x;
    }

    private static void wins(String what, int kind, int size, int boot, int[][] yes, int[][] no) {
        ThreeBalls x = of(kind, size, boot);
        for (int[] at : yes) due("5: " + what + " wins at " + at[0] + ", " + at[1], x.wins(0, at[0], at[1]), 1);
        for (int[] at : no) due("5: " + what + " loses at " + at[0] + ", " + at[1], x.wins(0, at[0], at[1]), 0);
    }

    private static int[][] corners(int far) {
        return new int[][] {{far, far}, {far, -far}, {-far, far}, {-far, -far}, {far, 0}, {-far, 0}, {0, far}, {0, -far}};
    }

    private static int[][] beside(int far) {
        int n = far + 1;
        return new int[][] {{n, far}, {-n, far}, {far, n}, {far, -n}, {n, 0}, {0, n}, {-n, 0}, {0, -n}, {40, 0}, {0, -40}};
    }

    private static void plainBySize() {
        for (int size = 0; size <= 9; size++) {
            for (int boot = 0; boot < 2; boot++) {
                wins("a stall of size " + size, 0, size, boot, corners(size), beside(size));
            }
        }
    }

    private static void heavyByHalf() {
        int[] half = {0, 0, 1, 1, 2, 2, 3, 3, 4, 4};
        for (int size = 0; size <= 9; size++) {
            for (int boot = 0; boot < 2; boot++) {
                wins("a heavy one of size " + size, 1, size, boot, corners(half[size]), beside(half[size]));
            }
        }
    }

    private static void tightBySign() {
        for (int size = 0; size <= 9; size++) {
            for (int boot = 0; boot < 2; boot++) {
                wins("a tight one of size " + size, 2, size, boot,
                    new int[][] {{0, 0}, {0, size}, {0, -size}, {size, size}, {size, -size}},
                    new int[][] {{-1, 0}, {-1, size}, {-1, -size}, {-9, 0}, {size + 1, 0}, {0, size + 1}, {0, -size - 1}});
            }
        }
    }

    private static void sprungByNought() {
        wins("a sprung one of size 0", 3, 0, 0, new int[][] {}, new int[][] {{0, 0}, {0, 1}, {1, 0}, {1, 1}});
        wins("a sprung one of size 1", 3, 1, 0, new int[][] {{0, 1}, {0, -1}, {1, 0}, {1, 1}, {1, -1}},
            new int[][] {{0, 0}, {-1, 0}, {-1, 1}, {-1, -1}, {2, 0}, {0, 2}, {2, 1}});
        wins("a sprung one of size 1, set", 3, 1, 1, new int[][] {{1, 1}, {1, -1}},
            new int[][] {{0, 0}, {0, 1}, {0, -1}, {1, 0}, {-1, 1}, {-1, -1}, {2, 1}, {1, 2}});
        wins("a sprung one of size 9", 3, 9, 0, new int[][] {{9, 0}, {0, 9}, {0, -9}, {9, 9}}, new int[][] {{0, 0}, {10, 0}, {-9, 9}});
        wins("a sprung one of size 9, set", 3, 9, 1, new int[][] {{9, 1}, {1, 9}, {1, -9}, {9, 9}},
            new int[][] {{9, 0}, {0, 9}, {0, -9}, {10, 1}, {-9, 9}});
    }

    private static void drawnByThrees() {
        wins("a drawn one of size 0", 4, 0, 0, new int[][] {{0, 0}}, new int[][] {{1, 1}, {3, 0}, {0, 3}});
        wins("a drawn one of size 0, set", 4, 0, 1, new int[][] {}, new int[][] {{0, 0}, {2, 0}, {0, 1}});
        wins("a drawn one of size 3", 4, 3, 0,
            new int[][] {{0, 0}, {3, 0}, {-3, 0}, {0, 3}, {0, -3}, {1, 1}, {-1, -1}, {-2, 1}, {2, -1}, {1, -2}, {-1, 2}, {3, 3}, {-3, -3}},
            new int[][] {{1, 0}, {-1, 0}, {0, 1}, {0, -1}, {1, -1}, {-1, 1}, {2, 1}, {-2, -1}, {4, 1}, {-4, -1}, {1, 4}, {6, 0}});
        wins("a drawn one of size 3, set", 4, 3, 1,
            new int[][] {{2, 0}, {-1, 0}, {0, 1}, {0, -2}, {1, -1}, {-2, -1}, {-1, 3}, {2, -3}, {3, 1}, {-3, -2}},
            new int[][] {{0, 0}, {1, 0}, {-2, 0}, {0, -1}, {0, 2}, {3, 0}, {-3, 0}, {1, 1}, {-4, 0}, {0, 4}});
    }

    private static void gaffedBySet() {
        int[] half = {0, 0, 1, 1, 2, 2, 3, 3, 4, 4};
        for (int size = 0; size <= 9; size++) {
            int h = half[size];
            wins("a gaffed one of size " + size, 5, size, 0, corners(size), beside(size));
            wins("a gaffed one of size " + size + ", set", 5, size, 1, new int[][] {{0, 0}, {0, h}, {0, -h}},
                new int[][] {{0, h + 1}, {0, -h - 1}, {1, 0}, {-1, 0}, {1, h}, {-1, -h}});
        }
    }

    private static void seenAndUnder() {
        int[][] seen = {{0, 0}, {1, 1}, {1, 1}, {2, 2}, {1, 1}, {2, 3}};
        int[] under = {-1, 0, 0, 2, 0, 1};
        for (int kind = 0; kind < 6; kind++) {
            ThreeBalls x = of(kind, 0, 0);
            for (int boot = 0; boot < 2; boot++) {
                x.set(0, 3, boot);
                due("4: seen of kind " + kind + " set " + boot, x.told(0, 7), seen[kind][boot]);
            }
            x.set(0, 0, 99);
            for (int k = 0; k < 6; k++) {
                boolean fits = k == kind || k == under[kind] || k == 0;
                due("33: kind " + kind + " taken for " + k, x.taken(0, k), fits ? 99 : -13);
            }
        }
    }

    private static void oddsAtTheEdge() {
        ThreeBalls x = new ThreeBalls();
        x.stall(0, 0, 9, 1);
        x.stall(0, 1919, 9, 1);
        x.stall(0, 1900, 0, 1);
        x.hand(-5, -5, 5);
        x.hand(5, 5, 5);
        x.hand(5, -5, 0);
        // From -10 to 0 in x and in y: ten of eleven are within 9, outside the green.
        due("7: throws outside the green win, top", x.odds(0, 0, 0, 0), 100);
        due("7: throws outside the green win, bottom", x.odds(0, 0, 0, 1), 121);
        due("7: at the other corner, top", x.odds(1, 1, 1919, 0), 100);
        due("7: at the other corner, bottom", x.odds(1, 1, 1919, 1), 121);
        due("7: past the side", x.odds(2, 2, 1405, 0), 1);
        due("7: the lean's sign in x", x.odds(2, 2, 1505, 0), 0);
        due("7: the lean's sign in y", x.odds(2, 2, 1404, 0), 0);
        due("7: x is ahead of y in an aim", x.odds(2, 2, 514, 0), 0);
        due("7: out of reach, top", x.odds(0, 1, 1919, 0), 0);
        due("7: out of reach, bottom", x.odds(0, 1, 1919, 1), 1);
        // The last column and row that one throw of 121 reaches: from 9 on.
        due("7: the last that is reached, top", x.odds(0, 1, 909, 0), 1);
        due("7: the last that is reached, bottom", x.odds(0, 1, 909, 1), 121);
        due("7: the first that is not", x.odds(0, 1, 1009, 0), 0);
        due("7: the first that is not", x.odds(0, 1, 910, 0), 0);
    }

    private static void oddsInLowestTerms() {
        ThreeBalls x = new ThreeBalls();
        x.stall(0, 1010, 4, 1);
        x.stall(0, 1010, 1, 1);
        x.stall(3, 1010, 0, 1);
        x.hand(0, 0, 4);
        x.hand(0, 0, 1);
        x.hand(0, 0, 0);
        long[][] rows = {
            // stall, hand, aim, above, below
            {0, 0, 1010, 1, 1}, {0, 0, 1110, 8, 9}, {0, 0, 1310, 2, 3}, {0, 0, 1313, 4, 9}, {0, 0, 1818, 1, 81}, {0, 0, 1918, 0, 1},
            {1, 0, 1010, 1, 9}, {1, 0, 1410, 2, 27}, {1, 0, 1414, 4, 81}, {1, 1, 1010, 1, 1}, {1, 1, 1110, 2, 3}, {1, 1, 1210, 1, 3},
            {1, 1, 1212, 1, 9}, {1, 2, 1010, 1, 1}, {1, 2, 1210, 0, 1}, {2, 0, 1010, 0, 1}, {2, 2, 1010, 0, 1},
        };
        for (long[] r : rows) {
            due("7: above at " + r[2], x.odds((int) r[0], (int) r[1], (int) r[2], 0), r[3]);
            due("7: below at " + r[2], x.odds((int) r[0], (int) r[1], (int) r[2], 1), r[4]);
        }
    }

    private static void best(String what, int kind, int peg, int size, int boot, int[] hand, long[] want) {
        ThreeBalls x = new ThreeBalls();
        x.stall(kind, peg, size, 1);
        x.set(0, 3, boot);
        x.hand(hand[0], hand[1], hand[2]);
        for (int part = 0; part < 3; part++) due("8: " + what + ", " + part, x.best(0, 0, part), want[part]);
    }

    private static void bestOfLikeOnes() {
        int[] sure = {0, 0, 0};
        int[] wide = {0, 0, 5};
        best("one place of 121, the least y, then x", 0, 1010, 0, 0, wide, new long[] {505, 1, 121});
        best("all alike where none wins", 3, 1010, 0, 0, sure, new long[] {0, 0, 1});
        best("a sure hand, the least y, then x", 0, 1010, 2, 0, sure, new long[] {808, 1, 1});
        best("a tight one", 2, 1010, 2, 0, sure, new long[] {1008, 1, 1});
        best("a drawn one", 4, 1010, 2, 0, sure, new long[] {808, 1, 1});
        best("the least y, though 809 has a lesser x", 4, 1010, 2, 1, sure, new long[] {1008, 1, 1});
        best("a gaffed one, set", 5, 1010, 5, 1, sure, new long[] {1008, 1, 1});
        best("a gaffed one, not set", 5, 1010, 5, 0, sure, new long[] {505, 1, 1});
        best("all of 25 by the middle alone", 0, 1010, 2, 0, new int[] {0, 0, 2}, new long[] {1010, 1, 1});
        best("all of 25 about the middle", 0, 1010, 3, 0, new int[] {0, 0, 2}, new long[] {909, 1, 1});
        best("a sprung one, set", 3, 1010, 2, 1, new int[] {0, 0, 1}, new long[] {1108, 4, 9});
    }

    private static void bestWithinTheGreen() {
        int[] left = {-5, -5, 0};
        int[] right = {5, 5, 0};
        best("at the first place", 0, 0, 0, 0, new int[] {0, 0, 0}, new long[] {0, 1, 1});
        best("at the last place", 0, 1919, 0, 0, new int[] {0, 0, 0}, new long[] {1919, 1, 1});
        best("at the last in x", 0, 1900, 0, 0, new int[] {0, 0, 0}, new long[] {1900, 1, 1});
        best("at the last in y", 0, 19, 0, 0, new int[] {0, 0, 0}, new long[] {19, 1, 1});
        best("the last that a lean reaches", 0, 1414, 0, 0, left, new long[] {1919, 1, 1});
        best("the first that it does not, in x", 0, 1514, 0, 0, left, new long[] {0, 0, 1});
        best("the first that it does not, in y", 0, 1415, 0, 0, left, new long[] {0, 0, 1});
        best("the first that a lean reaches", 0, 505, 0, 0, right, new long[] {0, 1, 1});
        best("the last that it does not, in x", 0, 405, 0, 0, right, new long[] {0, 0, 1});
        best("the last that it does not, in y", 0, 504, 0, 0, right, new long[] {0, 0, 1});
        best("a corner that all throws pass", 0, 1919, 4, 0, left, new long[] {0, 0, 1});
        best("a corner that one aim alone reaches", 0, 1919, 5, 0, left, new long[] {1919, 1, 1});
        best("no better than a part", 0, 1919, 5, 0, new int[] {-5, -5, 1}, new long[] {1919, 4, 9});
    }

    /** Where the try by a seed comes down, told by stalls that pay at their pegs alone. */
    private static int throwOf(int seed, int scatter) {
        for (int dx = -scatter; dx <= scatter; dx++) {
            for (int dy = -scatter; dy <= scatter; dy++) {
                ThreeBalls x = new ThreeBalls();
                x.hand(0, 0, scatter);
                x.stall(0, 100 * (10 + dx) + 10 + dy, 0, 1);
                if (x.tried(0, 0, 1010, seed) == 1) return 100 * dx + dy;
            }
        }
        return 9999;
    }

    private static void lotsThatWrap() {
        // Seed 44488 is the first whose lot goes past the modulus.
        long[][] rows = {{0, 48271}, {1, 96542}, {44487, 2147480248L}, {44488, 44872}, {44489, 93143}, {99999, 532132706L}};
        for (long[] r : rows) {
            due("9: the lot of seed " + r[0], (r[0] + 1) * 48271 % 2147483647L, r[1]);
            for (int scatter = 0; scatter <= 5; scatter++) {
                int w = 2 * scatter + 1;
                long dx = r[1] % w - scatter;
                long dy = r[1] / w % w - scatter;
                due("9: seed " + r[0] + " by scatter " + scatter, throwOf((int) r[0], scatter), 100 * dx + dy);
            }
        }
    }

    private static void lotsByScatter() {
        ThreeBalls x = new ThreeBalls();
        x.stall(0, 1010, 0, 1);
        x.hand(0, 0, 0);
        x.hand(3, -4, 0);
        for (int seed = 0; seed < 20; seed++) due("9: no scatter, seed " + seed, x.tried(0, 0, 1010, 5003 * seed), 1);
        due("9: a lean", x.tried(0, 1, 714, 99999), 1);
        due("9: a lean, not at the peg", x.tried(0, 1, 1010, 99999), 0);
        due("9: the lean's sign", x.tried(0, 1, 1306, 99999), 0);
    }

    private static void setAsItWas() {
        ThreeBalls x = of(5, 9, 0);
        x.hand(0, 0, 0);
        due("9: not set it wins", x.tried(0, 0, 1110, 1), 1);
        x.set(0, 3, 1);
        due("9: set it does not", x.tried(0, 0, 1110, 1), 0);
        due("10: told against what can be", x.shown(0, 0, 1110, 1), 2);
        x.set(0, 3, 0);
        due("10: told as lost", x.shown(0, 0, 1110, 0), 3);
        int[] set = {0, 1, 1, 0};
        int[] won = {1, 0, 1, 0};
        for (int t = 0; t < 4; t++) {
            due("11: set as it was, try " + t, x.tryTold(t, 4), set[t]);
            due("11: won, try " + t, x.tryTold(t, 3), won[t]);
        }
        due("11: behind the last", x.tryTold(4, 4), ThreeBalls.NONE);
        due("11: what behind the last", x.tryTold(3, 5), ThreeBalls.NONE);
    }

    private static void setAllOfTheLast() {
        ThreeBalls x = new ThreeBalls();
        x.stall(0, 1010, 0, 1);
        x.stall(0, 1010, 1, 1);
        x.hand(0, 0, 1);
        x.hand(0, 0, 2);
        due("12: without any", x.setAll(0, 1, 0), 1);
        due("12: without any", x.setAll(0, 8, 1), 1);
        x.shown(1, 0, 1010, 1);
        due("12: a try at another stall does not count", x.setAll(0, 8, 0), 1);
        // Lost by hand 0: 8 of 9 do so; won by hand 1: 1 of 25.
        long all = 1;
        for (int n = 1; n <= 9; n++) {
            x.shown(0, 0, 1010, 0);
            x.shown(1, 1, 1010, 0);
            all *= 8;
            due("12: fewer than 8 are all that there are, " + n, x.setAll(0, 8, 0), Math.min(all, 16777216));
        }
        x.shown(0, 1, 1010, 1);
        long product = 1;
        for (int n = 1; n <= 8; n++) {
            due("12: the last " + n, x.setAll(0, n, 0), product);
            due("12: the last " + n, x.setAll(0, n, 1), product);
            product *= 8;
        }
        x.shown(0, 1, 0, 0);
        due("12: where none wins all do not", x.setAll(0, 1, 0), 25);
        x.shown(0, 1, 0, 1);
        due("12: where none wins a try that won", x.setAll(0, 1, 0), 0);
        due("12: nothing times something", x.setAll(0, 8, 0), 0);
        due("12: the other stall's last", x.setAll(1, 1, 0), 16);
    }

    private static void setAllOfKinds() {
        // Of 25 throws about the peg of a stall of size 2: as if set, as if not.
        long[][] ways = {{25, 25}, {9, 9}, {15, 15}, {8, 14}, {8, 9}, {3, 25}};
        for (int kind = 0; kind < 6; kind++) {
            for (int boot = 0; boot < 2; boot++) {
                ThreeBalls x = of(kind, 2, boot);
                x.hand(0, 0, 2);
                x.shown(0, 0, 1010, 1);
                for (int part = 0; part < 2; part++) due("12: kind " + kind + " part " + part, x.setAll(0, 1, part), ways[kind][part]);
                x.shown(0, 0, 1010, 0);
                for (int part = 0; part < 2; part++) {
                    due("12: kind " + kind + " lost, part " + part, x.setAll(0, 1, part), 25 - ways[kind][part]);
                }
                due("12: it stays as it is set", x.told(0, 6), boot);
            }
        }
    }
}
