/** Promises 1 to 8: a new object, stalls and hands. */
public final class StallsTest {
    private static final Checks CHECKS = new Checks("StallsTest");
    private static final int MIN = Integer.MIN_VALUE, MAX = Integer.MAX_VALUE;

    public static void main(String[] args) {
        promise1();
        promise2();
        promise3();
        promise4();
        promise5();
        promise6();
        promise7();
        promise8();
        CHECKS.end();
    }

    private static void due(String what, long got, long want) {
        CHECKS.due(what, got, want);
    }

    private static void promise1() {
        ThreeBalls x = new ThreeBalls();
        int[] counts = {0, 0, 0, 0, 1, 0, 0, 0};
        for (int what = 0; what < counts.length; what++) {
            due("1: count " + what, x.count(what), counts[what]);
        }
        due("1: no stall", x.told(0, 0), -5);
        due("1: no sheet", x.cell(0, 0, 0), -11);
        due("1: no image", x.back(), ThreeBalls.STATE);
    }

    private static void promise2() {
        ThreeBalls x = new ThreeBalls();
        int[][] wrong = {
            {-1, 0, 0, 1}, {6, 0, 0, 1}, {MIN, 0, 0, 1}, {MAX, 0, 0, 1},
            {0, -1, 0, 1}, {0, 20, 0, 1}, {0, 2000, 0, 1}, {0, 1920, 0, 1}, {0, 99, 0, 1}, {0, MIN, 0, 1},
            {0, MAX, 0, 1}, {0, -100, 0, 1},
            {0, 0, -1, 1}, {0, 0, 10, 1}, {0, 0, 0, 0}, {0, 0, 0, 100}, {0, 0, 0, -1},
        };
        for (int[] w : wrong) {
            due("2: wrong", x.stall(w[0], w[1], w[2], w[3]), ThreeBalls.BAD);
        }
        due("2: none came", x.count(0), 0);
        due("2: first", x.stall(0, 0, 0, 1), 0);
        due("2: second", x.stall(5, 1919, 9, 99), 1);
        for (int i = 2; i < 8; i++) {
            due("2: further", x.stall(i - 2, 1900, i, i), i);
        }
        due("2: ninth", x.stall(0, 0, 0, 1), ThreeBalls.FULL);
        due("2: wrong ahead of full", x.stall(6, 0, 0, 1), ThreeBalls.BAD);
        due("2: eight", x.count(0), 8);
        due("2: kind", x.told(1, 0), 5);
        due("2: peg", x.told(1, 1), 1919);
        due("2: size", x.told(1, 2), 9);
        due("2: price", x.told(1, 3), 99);
    }

    private static void promise3() {
        ThreeBalls x = new ThreeBalls();
        due("3: no stall yet", x.set(0, 0, 1), -5);
        x.stall(0, 505, 2, 9);
        x.stall(0, 505, 2, 8);
        due("3: price was", x.set(0, 0, 99), 9);
        due("3: price was", x.set(0, 0, 1), 99);
        due("3: bear was", x.set(0, 1, 999), 0);
        due("3: bear was", x.set(0, 1, 0), 999);
        due("3: seems was", x.set(0, 2, 999), 0);
        due("3: seems was", x.set(0, 2, 0), 999);
        due("3: set was", x.set(0, 3, 1), 0);
        due("3: set was", x.set(0, 3, 1), 1);
        int[][] wrong = {
            {-1, 0, 1}, {2, 0, 1}, {MIN, 0, 1}, {MAX, 0, 1}, {0, -1, 1}, {0, 4, 1},
            {0, 0, 0}, {0, 0, 100}, {0, 0, -1}, {0, 1, -1}, {0, 1, 1000}, {0, 2, -1}, {0, 2, 1000},
            {0, 3, -1}, {0, 3, 2},
        };
        for (int[] w : wrong) {
            due("3: wrong", x.set(w[0], w[1], w[2]), -5);
        }
        due("3: price", x.told(0, 3), 1);
        due("3: bear", x.told(0, 4), 0);
        due("3: seems", x.told(0, 5), 0);
        due("3: set", x.told(0, 6), 1);
        due("3: the other stall", x.told(1, 3), 8);
        due("3: the other stall", x.told(1, 6), 0);
    }

    private static void promise4() {
        ThreeBalls x = new ThreeBalls();
        int[] seen = {0, 1, 1, 2, 1, 2};
        for (int kind = 0; kind < 6; kind++) {
            x.stall(kind, 100 * kind + 19, kind + 1, kind + 7);
            due("4: bear at first", x.told(kind, 4), 0);
            due("4: seems at first", x.told(kind, 5), 0);
            due("4: set at first", x.told(kind, 6), 0);
            x.set(kind, 1, kind + 20);
            x.set(kind, 2, kind + 30);
            int[] want = {kind, 100 * kind + 19, kind + 1, kind + 7, kind + 20, kind + 30, 0, seen[kind], 2};
            for (int what = 0; what < want.length; what++) {
                due("4: kind " + kind + " what " + what, x.told(kind, what), want[what]);
            }
            x.set(kind, 3, 1);
            due("4: set", x.told(kind, 6), 1);
            due("4: seen if set", x.told(kind, 7), kind == 5 ? 3 : seen[kind]);
        }
        due("4: what", x.told(0, 9), -5);
        due("4: what", x.told(0, -1), -5);
        due("4: stall", x.told(6, 0), -5);
        due("4: stall", x.told(-1, 0), -5);
        due("4: stall", x.told(MIN, 8), -5);
        hoursOfALook();
    }

    private static void hoursOfALook() {
        ThreeBalls x = new ThreeBalls();
        x.stall(0, 505, 2, 9);
        x.set(0, 1, 20);
        x.set(0, 2, 50);
        String[] texts = {"price + bear + seems", "odds + won + tries + 3", "0", "0 - 7", "100"};
        int[] hours = {79, 3, 1, 1, 99};
        for (int i = 0; i < texts.length; i++) {
            int t = Checks.read(x, "play 1;skill 1;leave " + texts[i] + ";");
            due("4: text", t, i + 1);
            x.force(t);
            due("4: hours by " + texts[i], x.told(0, 8), hours[i]);
        }
        x.force(0);
        due("4: hours by the first rule", x.told(0, 8), 2);
    }

    private static void promise5() {
        ThreeBalls x = new ThreeBalls();
        for (int kind = 0; kind < 6; kind++) {
            x.stall(kind, 1010, 5, 1);
        }
        for (int boot = 0; boot < 2; boot++) {
            for (int kind = 0; kind < 6; kind++) {
                x.set(kind, 3, boot);
                for (int a = -40; a <= 40; a++) {
                    for (int b = -40; b <= 40; b++) {
                        due("5: kind " + kind + " set " + boot + " at " + a + ", " + b,
                            x.wins(kind, a, b), Model.pays(kind, 5, boot, a, b) ? 1 : 0);
                    }
                }
            }
        }
        winsByHand();
        int[][] wrong = {
            {-1, 0, 0}, {6, 0, 0}, {0, -41, 0}, {0, 41, 0}, {0, 0, -41}, {0, 0, 41}, {0, MIN, MIN}, {0, MAX, MAX},
        };
        for (int[] w : wrong) {
            due("5: wrong", x.wins(w[0], w[1], w[2]), ThreeBalls.BAD);
        }
    }

    private static void winsByHand() {
        ThreeBalls x = new ThreeBalls();
        for (int kind = 0; kind < 6; kind++) {
            x.stall(kind, 1010, 3, 1);
        }
        // kind, set, a, b, whether it wins
        int[][] rows = {
            {0, 0, 3, -3, 1}, {0, 0, -3, 3, 1}, {0, 0, 4, 0, 0}, {0, 0, 0, -4, 0}, {0, 1, 0, 0, 1},
            {1, 0, 1, -1, 1}, {1, 0, 2, 0, 0}, {1, 0, 0, -2, 0}, {1, 1, 0, 0, 1},
            {2, 0, 0, 3, 1}, {2, 0, -1, 0, 0}, {2, 0, 3, 3, 1}, {2, 0, 4, 0, 0}, {2, 1, 0, 0, 1},
            {3, 0, 0, 0, 0}, {3, 0, 0, 1, 1}, {3, 0, 1, 0, 1}, {3, 0, -1, 1, 0},
            {3, 1, 0, 1, 0}, {3, 1, 1, 0, 0}, {3, 1, 1, 1, 1}, {3, 1, 4, 1, 0}, {3, 1, -1, 1, 0},
            {4, 0, 0, 0, 1}, {4, 0, 1, 1, 1}, {4, 0, 1, 0, 0}, {4, 0, -1, 2, 1}, {4, 0, -1, -1, 1}, {4, 0, 0, -3, 1},
            {4, 1, 0, 0, 0}, {4, 1, 2, 0, 1}, {4, 1, -1, 0, 1}, {4, 1, 0, 1, 1}, {4, 1, 5, 0, 0},
            {5, 0, 3, 3, 1}, {5, 0, -3, 3, 1}, {5, 0, 4, 0, 0},
            {5, 1, 0, 1, 1}, {5, 1, 0, 2, 0}, {5, 1, 1, 0, 0}, {5, 1, 0, -1, 1}, {5, 1, 0, 0, 1},
        };
        for (int[] r : rows) {
            x.set(r[0], 3, r[1]);
            due("5: kind " + r[0] + " set " + r[1] + " at " + r[2] + ", " + r[3], x.wins(r[0], r[2], r[3]), r[4]);
        }
    }

    private static void promise6() {
        ThreeBalls x = new ThreeBalls();
        int[][] wrong = {{-6, 0, 0}, {6, 0, 0}, {0, -6, 0}, {0, 6, 0}, {0, 0, -1}, {0, 0, 6}, {MIN, MAX, MIN}};
        for (int[] w : wrong) {
            due("6: wrong", x.hand(w[0], w[1], w[2]), ThreeBalls.BAD);
        }
        due("6: none came", x.count(1), 0);
        due("6: first", x.hand(-5, 5, 0), 0);
        due("6: second", x.hand(5, -5, 5), 1);
        for (int i = 2; i < 6; i++) {
            due("6: further", x.hand(0, 0, i), i);
        }
        due("6: seventh", x.hand(0, 0, 0), ThreeBalls.FULL);
        due("6: wrong ahead of full", x.hand(0, 0, 6), ThreeBalls.BAD);
        due("6: six", x.count(1), 6);
    }

    private static void promise7() {
        ThreeBalls x = new ThreeBalls();
        x.stall(0, 1010, 1, 5);
        x.stall(5, 0, 4, 5);
        x.hand(0, 0, 2);
        x.hand(5, -5, 0);
        due("7: 9 of 25, top", x.odds(0, 0, 1010, 0), 9);
        due("7: 9 of 25, bottom", x.odds(0, 0, 1010, 1), 25);
        due("7: 15 of 25, top", x.odds(1, 0, 4, 0), 3);
        due("7: 15 of 25, bottom", x.odds(1, 0, 4, 1), 5);
        due("7: none, top", x.odds(0, 0, 0, 0), 0);
        due("7: none, bottom", x.odds(0, 0, 0, 1), 1);
        due("7: by lean", x.odds(0, 1, 515, 0), 1);
        due("7: by lean", x.odds(0, 1, 515, 1), 1);
        due("7: by lean, past the edge", x.odds(1, 1, 0, 0), 0);
        x.set(1, 3, 1);
        // Set, the one column a = 0 with b from -2 to 2.
        due("7: set, 5 of 25, top", x.odds(1, 0, 0, 0), 1);
        due("7: set, 5 of 25, bottom", x.odds(1, 0, 0, 1), 5);
        oddsAtTheEdges();
        int[][] wrong = {
            {-1, 0, 0, 0}, {2, 0, 0, 0}, {0, -1, 0, 0}, {0, 2, 0, 0}, {0, 0, -1, 0}, {0, 0, 20, 0}, {0, 0, 2000, 0},
            {0, 0, 0, -1}, {0, 0, 0, 2}, {MAX, MAX, MAX, MAX}, {MIN, MIN, MIN, MIN},
        };
        for (int[] w : wrong) {
            due("7: wrong", x.odds(w[0], w[1], w[2], w[3]), ThreeBalls.NO);
        }
    }

    private static void oddsAtTheEdges() {
        ThreeBalls x = new ThreeBalls();
        x.stall(0, 1010, 9, 5);
        x.hand(0, 0, 0);
        x.hand(5, 0, 1);
        for (int aim = 0; aim < 20; aim++) {
            int within = aim >= 1 && aim <= 19 ? 1 : 0;
            due("7: size 9, from the left, " + aim, x.odds(0, 0, 100 * aim + 10, 0), within);
            due("7: size 9, from below, " + aim, x.odds(0, 0, 1000 + aim, 0), within);
        }
        due("7: two columns of three, top", x.odds(0, 1, 1310, 0), 1);
        due("7: two columns of three, top", x.odds(0, 1, 1410, 0), 2);
        due("7: two columns of three, bottom", x.odds(0, 1, 1410, 1), 3);
        due("7: one column of three, top", x.odds(0, 1, 1510, 0), 1);
        due("7: one column of three, bottom", x.odds(0, 1, 1510, 1), 3);
        due("7: none", x.odds(0, 1, 1610, 0), 0);
        due("7: two columns, one row", x.odds(0, 1, 1400, 0), 2);
        due("7: two columns, one row", x.odds(0, 1, 1400, 1), 9);
    }

    private static void promise8() {
        ThreeBalls x = new ThreeBalls();
        x.stall(0, 505, 2, 9);
        x.stall(0, 1919, 0, 9);
        x.stall(3, 1010, 0, 9);
        x.stall(4, 1010, 1, 9);
        x.hand(1, -1, 3);
        x.hand(-5, -5, 0);
        x.hand(0, 0, 0);
        due("8: least y, then least x", x.best(0, 0, 0), 305);
        due("8: top", x.best(0, 0, 1), 25);
        due("8: bottom", x.best(0, 0, 2), 49);
        due("8: out of reach", x.best(1, 1, 0), 0);
        due("8: out of reach, top", x.best(1, 1, 1), 0);
        due("8: out of reach, bottom", x.best(1, 1, 2), 1);
        due("8: nothing wins", x.best(2, 2, 0), 0);
        due("8: drawn", x.best(3, 2, 0), 909);
        x.set(3, 3, 1);
        // Set, at y 9 it pays where a is 1 (1 - 2 + 1 = 0).
        due("8: drawn and set", x.best(3, 2, 0), 1109);
        due("8: one by one", 10 * x.best(3, 2, 1) + x.best(3, 2, 2), 11);
        int[][] wrong = {{-1, 0, 0}, {4, 0, 0}, {0, -1, 0}, {0, 3, 0}, {0, 0, -1}, {0, 0, 3}, {MIN, MAX, 0}};
        for (int[] w : wrong) {
            due("8: wrong", x.best(w[0], w[1], w[2]), ThreeBalls.NO);
        }
    }
}
