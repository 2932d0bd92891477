/** Promises 21 to 28: tests, years, stalls made, walks, images, counts. */
public final class InspectorTest {
    private static final Checks CHECKS = new Checks("InspectorTest");
    private static final int MIN = Integer.MIN_VALUE, MAX = Integer.MAX_VALUE;

    public static void main(String[] args) {
        promise21();
        promise22();
        promise23();
        promise24();
        promise25();
        promise26and27();
        promise28();
        CHECKS.end();
    }

    private static void due(String what, long got, long want) {
        CHECKS.due(what, got, want);
    }

    private static void promise21() {
        ThreeBalls x = new ThreeBalls();
        int[][] wrong = {
            {0, 0}, {21, 0}, {-1, 0}, {1, -1}, {1, 4}, {1, 40}, {1, 400000}, {1, 333334}, {1, 1000000}, {1, 900000},
            {1, MAX}, {1, MIN}, {MIN, 0}, {MAX, 0},
        };
        for (int[] w : wrong) {
            due("21: wrong", x.test(w[0], w[1]), ThreeBalls.BAD);
        }
        due("21: none came", x.count(3), 0);
        due("21: first", x.test(1, 0), 0);
        due("21: second", x.test(20, 333333), 1);
        for (int i = 2; i < 6; i++) {
            due("21: further", x.test(i, 123012), i);
        }
        due("21: full", x.test(1, 0), ThreeBalls.FULL);
        due("21: wrong ahead of full", x.test(1, 4), ThreeBalls.BAD);
        due("21: six", x.count(3), 6);
    }

    private static void promise22() {
        ThreeBalls x = new ThreeBalls();
        due("22: none of none", x.find(0, 0), 0);
        due("22: no stall yet", x.find(1, 0), ThreeBalls.BAD);
        x.stall(0, 0, 1, 1);
        x.stall(1, 0, 1, 1);
        x.stall(5, 0, 1, 1);
        x.stall(0, 0, 2, 2);
        due("22: no tests", x.find(3, 0), ThreeBalls.NONE);
        due("22: no tests", x.find(3, 1), ThreeBalls.NONE);
        due("22: like kinds need none", x.find(0b1001, 0), 0);
        due("22: like kinds need no hours", x.find(0b1001, 1), 0);
        due("22: no stall needs none", x.find(0, 1), 0);
        due("22: one stall needs none", x.find(4, 0), 0);
        x.test(9, 12003);
        due("22: kinds 0, 1, 5 by 0, 1, 3", x.find(0b1111, 0), 1);
        due("22: its hours", x.find(0b1111, 1), 9);
        x.test(4, 10000);
        x.test(4, 1);
        due("22: two that take fewer", x.find(0b1111, 0), 0b110);
        due("22: their hours", x.find(0b1111, 1), 8);
        due("22: one is enough for 0 and 1", x.find(0b11, 0), 0b10);
        due("22: one is enough for 0 and 5", x.find(0b101, 0), 0b100);
        due("22: the least of like ones", x.find(0b110, 0), 0b10);
        x.test(8, 12003);
        due("22: the least of like hours", x.find(0b1111, 0), 0b110);
        x.test(7, 12003);
        due("22: the fewest hours", x.find(0b1111, 0), 0b10000);
        int[][] wrong = {{-1, 0}, {16, 0}, {0, -1}, {0, 2}, {MIN, 0}, {MAX, 0}};
        for (int[] w : wrong) {
            due("22: wrong", x.find(w[0], w[1]), ThreeBalls.BAD);
        }
        ThreeBalls y = new ThreeBalls();
        y.stall(0, 0, 1, 1);
        y.stall(1, 0, 1, 1);
        y.stall(5, 0, 1, 1);
        y.test(4, 10000);
        due("22: one test is not enough", y.find(7, 0), ThreeBalls.NONE);
        y.test(4, 1);
        due("22: both are", y.find(7, 0), 3);
    }

    private static void promise23() {
        ThreeBalls x = new ThreeBalls();
        due("23: no stalls", x.year(199, 0), 0);
        due("23: no stalls", x.year(199, 1), 0);
        due("23: no stalls", x.year(199, 2), 0);
        x.stall(0, 0, 1, 9);
        x.stall(1, 0, 1, 3);
        x.stall(4, 0, 1, 2);
        x.stall(5, 0, 1, 5);
        x.stall(3, 0, 1, 5);
        due("23: two hours, the least of like ones", x.year(2, 0), 0b01000);
        due("23: two hours, found", x.year(2, 1), 2);
        due("23: five hours", x.year(5, 0), 0b11000);
        due("23: five hours, taken", x.year(5, 2), 4);
        due("23: all but what has no gaffs", x.year(199, 0), 0b11110);
        due("23: all, found", x.year(199, 1), 6);
        due("23: all, taken", x.year(199, 2), 8);
        x.set(3, 3, 1);
        due("23: set", x.year(199, 1), 7);
        Checks.read(x, "play 1; skill 1; leave price;");
        x.force(1);
        due("23: one hour", x.year(1, 0), 0);
        due("23: two hours", x.year(2, 0), 0b00100);
        due("23: three hours, the fewer", x.year(3, 0), 0b00100);
        due("23: three hours, taken", x.year(3, 2), 2);
        due("23: five hours", x.year(5, 0), 0b01000);
        x.set(3, 3, 0);
        due("23: five hours, like finds and hours", x.year(5, 0), 0b00110);
        due("23: five hours, taken", x.year(5, 2), 5);
        due("23: none", x.year(0, 0), 0);
        yearOfAFullGreen();
        int[][] wrong = {{-1, 0}, {200, 0}, {0, -1}, {0, 3}, {MIN, 0}, {MAX, MAX}};
        for (int[] w : wrong) {
            due("23: wrong", x.year(w[0], w[1]), ThreeBalls.BAD);
        }
    }

    private static void yearOfAFullGreen() {
        ThreeBalls x = new ThreeBalls();
        for (int i = 0; i < 8; i++) {
            x.stall(1, 0, 1, i + 1);
        }
        due("23: all eight", x.year(16, 0), 255);
        due("23: all eight, hours", x.year(16, 2), 16);
        due("23: one too many", x.year(15, 0), 127);
        Checks.read(x, "play 1; skill 1; leave price*price;");
        x.force(1);
        due("23: the first alone", x.year(4, 0), 1);
        due("23: the first alone, hours", x.year(4, 2), 1);
        due("23: all but the last", x.year(199, 0), 127);
        due("23: all but the last, hours", x.year(199, 2), 140);
    }

    private static void promise24() {
        ThreeBalls x = new ThreeBalls();
        due("24: no hand", x.make(0, 0, 0, 0, 0), ThreeBalls.BAD);
        x.hand(0, 0, 1);
        x.hand(0, 0, 0);
        due("24: 1000 odds, 12 less 10", x.make(0, 0, 10, 500, 2), 112);
        due("24: size 0 by 1 of 9 is 111", x.make(0, 0, 9, 111, 0), 1);
        due("24: but not 112", x.make(0, 0, 9, 112, 0), 109);
        due("24: least left of like sizes", x.make(0, 0, 0, 0, -999), 1);
        due("24: the greater size leaves less", x.make(0, 0, 50, 0, -999), 101);
        due("24: fractions are not cut", x.make(0, 0, 10, 0, 0), 110);
        due("24: as much left as asked", x.make(0, 0, 10, 0, 89), 199);
        due("24: fractions are not cut, 92 less 10 of 9", x.make(0, 0, 10, 0, 90), 92);
        x.hand(0, 0, 4);
        due("24: as great as can be", x.make(1, 2, 10, 1000, 0), 810);
        x.hand(0, 0, 5);
        // Heavy of size 8, 9: 81 of 121, 669 and no more.
        due("24: not great enough", x.make(1, 3, 10, 670, 0), ThreeBalls.NONE);
        // Tight of size 9: 10 columns of 11, 909 and no more.
        due("24: the greatest", x.make(2, 3, 10, 909, 0), 910);
        due("24: greater than the greatest", x.make(2, 3, 10, 910, 0), ThreeBalls.NONE);
        due("24: heavy", x.make(1, 1, 10, 1000, 0), 10);
        due("24: sprung", x.make(3, 1, 10, 1000, 0), 110);
        due("24: not set, gaffed is as plain", x.make(5, 0, 10, 1000, 0), 110);
        due("24: bear too dear", x.make(0, 1, 999, 0, 99), ThreeBalls.NONE);
        due("24: 99 left by no bear", x.make(0, 1, 0, 0, 99), 99);
        due("24: sprung of size 0 never wins", x.make(3, 1, 999, 0, 99), 99);
        due("24: too much asked", x.make(2, 0, 100, 1000, 0), ThreeBalls.NONE);
        due("24: no stall came", x.count(0), 0);
        int[][] wrong = {
            {-1, 0, 0, 0, 0}, {6, 0, 0, 0, 0}, {0, -1, 0, 0, 0}, {0, 4, 0, 0, 0}, {0, 0, -1, 0, 0}, {0, 0, 1000, 0, 0},
            {0, 0, 0, -1, 0}, {0, 0, 0, 1001, 0}, {0, 0, 0, 0, -1000}, {0, 0, 0, 0, 100}, {MIN, MAX, MIN, MAX, MIN},
        };
        for (int[] w : wrong) {
            due("24: wrong", x.make(w[0], w[1], w[2], w[3], w[4]), ThreeBalls.BAD);
        }
    }

    private static void promise25() {
        ThreeBalls x = new ThreeBalls();
        x.hand(0, 0, 1);
        due("25: no stalls", x.walk(0, 200, 0), 1000000);
        due("25: no stalls", x.walk(0, 200, 1), ThreeBalls.NONE);
        x.stall(3, 1010, 0, 1);
        due("25: what never wins", x.walk(0, 200, 0), 1000000);
        due("25: what never wins", x.walk(0, 200, 1), ThreeBalls.NONE);
        x.stall(0, 1010, 0, 5);
        due("25: too little coin", x.walk(0, 4, 0), 1000000);
        due("25: too little coin", x.walk(0, 4, 1), ThreeBalls.NONE);
        due("25: one try, 1 of 9", x.walk(0, 5, 0), 888888);
        due("25: one try", x.walk(0, 5, 1), 1);
        due("25: a coin for what never wins first", x.walk(0, 6, 1), 0);
        due("25: two tries, cut each", x.walk(0, 10, 0), 888888 * 8 / 9);
        x.stall(2, 1010, 1, 11);
        // Tight: 6 of 9.
        due("25: a tight one", x.walk(0, 11, 0), 333333);
        due("25: a tight one", x.walk(0, 11, 1), 2);
        due("25: both", x.walk(0, 16, 0), Math.min(333333 * 8 / 9, 888888 * 3 / 9));
        due("25: both, the least that can begin", x.walk(0, 16, 1), 1);
        int[][] wrong = {{-1, 0, 0}, {1, 0, 0}, {0, -1, 0}, {0, 201, 0}, {0, 0, -1}, {0, 0, 2}, {MIN, MAX, MIN}};
        for (int[] w : wrong) {
            due("25: wrong", x.walk(w[0], w[1], w[2]), ThreeBalls.BAD);
        }
        orderOfAWalk();
        walkOfAFullGreen();
    }

    private static void walkOfAFullGreen() {
        ThreeBalls x = new ThreeBalls();
        x.hand(0, 0, 1);
        for (int i = 0; i < 7; i++) {
            x.stall(3, 1010, 0, 50);
        }
        x.stall(0, 1010, 0, 50);
        due("25: the eighth alone wins", x.walk(0, 50, 0), 888888);
        due("25: the eighth alone wins", x.walk(0, 50, 1), 7);
        due("25: four tries by 199 are three", x.walk(0, 199, 0), 888888 * 8 / 9 * 8 / 9);
        due("25: four tries", x.walk(0, 200, 0), 888888 * 8 / 9 * 8 / 9 * 8 / 9);
        due("25: four tries", x.walk(0, 200, 1), 7);
        x.set(7, 0, 1);
        int fail = 1000000;
        for (int i = 0; i < 200; i++) {
            fail = (int) (fail * 8L / 9);
        }
        due("25: two hundred tries", x.walk(0, 200, 0), fail);
    }

    private static void orderOfAWalk() {
        ThreeBalls x = new ThreeBalls();
        x.hand(0, 0, 5);
        x.stall(0, 1010, 3, 7);
        x.stall(5, 505, 4, 11);
        x.stall(4, 1515, 5, 9);
        x.set(1, 3, 1);
        Model m = new Model();
        m.hand(0, 0, 5);
        m.stall(0, 1010, 3, 7);
        m.stall(5, 505, 4, 11);
        m.stall(4, 1515, 5, 9);
        m.set(1, 3, 1);
        for (int coin = 0; coin <= 90; coin++) {
            due("25: by all orders of " + coin, x.walk(0, coin, 0), m.walk(0, coin, 0));
            due("25: by all orders of " + coin, x.walk(0, coin, 1), m.walk(0, coin, 1));
        }
    }

    private static void promise26and27() {
        ThreeBalls x = new ThreeBalls();
        due("27: there is none", x.back(), ThreeBalls.STATE);
        x.stall(5, 1010, 1, 5);
        x.hand(0, 0, 1);
        x.set(0, 0, 6);
        x.set(0, 1, 7);
        x.set(0, 2, 8);
        x.shown(0, 0, 1010, 1);
        Checks.read(x, "play 1; skill 1; leave 1;");
        due("26: how many tries", x.image(), 1);
        x.set(0, 0, 16);
        x.set(0, 1, 17);
        x.set(0, 2, 18);
        x.set(0, 3, 1);
        x.force(1);
        x.shown(0, 0, 1010, 1);
        x.tried(0, 0, 1010, 1);
        x.stall(1, 1010, 1, 50);
        x.set(1, 3, 1);
        x.hand(0, 0, 2);
        x.test(1, 0);
        x.sheet(0, 0, 4);
        x.feed(2, 0);
        due("27: how many tries", x.back(), 1);
        int[] stall0 = {5, 1010, 1, 6, 7, 8, 0, 2, 2};
        int[] stall1 = {1, 1010, 1, 50, 0, 0, 1, 1, 2};
        for (int what = 0; what < 9; what++) {
            due("27: stall 0 what " + what, x.told(0, what), stall0[what]);
            due("27: stall 1 stays, what " + what, x.told(1, what), stall1[what]);
        }
        int[] counts = {2, 2, 1, 1, 2, 2, 0, 1};
        for (int what = 0; what < 8; what++) {
            due("27: count " + what, x.count(what), counts[what]);
        }
        due("27: the try is gone", x.tryTold(1, 0), ThreeBalls.NONE);
        due("27: the first try stays", x.tryTold(0, 2), 1010);
        due("27: the sheet stays", x.cell(0, 3, 1), 1);
        x.set(0, 0, 90);
        due("27: once more", x.back(), 1);
        due("27: once more", x.told(0, 3), 6);
        x.set(0, 0, 91);
        x.force(1);
        x.shown(0, 0, 0, 0);
        due("26: a new image", x.image(), 2);
        x.set(0, 0, 92);
        x.set(1, 0, 93);
        x.force(0);
        due("27: the new one", x.back(), 2);
        due("27: the new one", x.told(0, 3), 91);
        due("27: the second stall, too", x.told(1, 3), 50);
        due("27: the rule", x.count(6), 1);
        for (int i = 2; i < 8; i++) {
            x.stall(0, 0, 0, i + 1);
            x.set(i, 1, 100 + i);
        }
        x.image();
        for (int i = 0; i < 8; i++) {
            x.set(i, 0, 99);
            x.set(i, 1, 999);
            x.set(i, 2, 998);
            x.set(i, 3, 1);
        }
        x.back();
        for (int i = 2; i < 8; i++) {
            int[] want = {i + 1, 100 + i, 0, 0};
            for (int what = 0; what < 4; what++) {
                due("27: stall " + i + " what " + what, x.told(i, 3 + what), want[what]);
            }
        }
    }

    private static void promise28() {
        ThreeBalls x = new ThreeBalls();
        x.stall(0, 1010, 1, 5);
        x.stall(0, 1010, 1, 5);
        x.hand(0, 0, 0);
        x.hand(0, 0, 0);
        x.hand(0, 0, 0);
        for (int i = 0; i < 7; i++) {
            x.shown(0, 0, 1010, i < 4 ? 1 : 0);
        }
        x.tried(0, 0, 1010, 1);
        x.test(1, 0);
        Checks.read(x, "play 1; skill 1; leave 1;");
        Checks.read(x, "play 1; skill 1; leave 1;");
        x.force(2);
        x.feed(6, 0);
        int[] counts = {2, 3, 8, 1, 3, 6, 2, 5};
        for (int what = 0; what < 8; what++) {
            due("28: count " + what, x.count(what), counts[what]);
        }
        due("28: wrong", x.count(-1), ThreeBalls.BAD);
        due("28: wrong", x.count(8), ThreeBalls.BAD);
        due("28: wrong", x.count(MAX), ThreeBalls.BAD);
        due("28: wrong", x.count(MIN), ThreeBalls.BAD);
    }
}
