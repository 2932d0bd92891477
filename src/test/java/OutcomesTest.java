/** Boundary cases of worth, players, whom to let win, years, stalls made and walks. */
public final class OutcomesTest {
    private static final Checks CHECKS = new Checks("OutcomesTest");
    private static final int NONE = ThreeBalls.NONE;

    public static void main(String[] args) {
        worthAtItsBounds();
        leavesTogether();
        coinOfAPlayer();
        fortyTries();
        letBits();
        lotsOfAPlayer();
        textOfAPlayer();
        mostOfLikeOnes();
        mostBySoMany();
        mostOfTheFirstSix();
        withEachStallAndHand();
        findTheFewest();
        findByBits();
        yearByHours();
        yearOfLikeOnes();
        makeAtItsBounds();
        makeOfLikeOnes();
        walkByCoin();
        walkCuts();
        walkBegins();
        CHECKS.end();
    }

    private static void due(String what, long got, long want) {
        CHECKS.due(what, got, want);
    }

    /** A stall of size 0 at 10, 10; hand 0 always wins there, hand 1 by 1 of 9, hand 2 never. */
    private static ThreeBalls green(int price, int bear, int seems) {
        ThreeBalls x = new ThreeBalls();
        x.stall(0, 1010, 0, price);
        x.set(0, 1, bear);
        x.set(0, 2, seems);
        x.hand(0, 0, 0);
        x.hand(0, 0, 1);
        x.hand(1, 0, 0);
        return x;
    }

    private static void rule(ThreeBalls x, String play) {
        int t = Checks.read(x, "play " + play + ";skill 1;leave 1;");
        CHECKS.holds("16: " + play, t > 0);
        x.force(t);
    }

    private static void worthAtItsBounds() {
        // price, bear, seems; worth and seeming of a sure try, of 1 of 9, of none: above, below
        int[][] rows = {
            {1, 999, 0, 998, 1, -1, 1, 110, 1, -1, 1},
            {99, 0, 999, -99, 1, 900, 1, -99, 1, 12, 1},
            {1, 1, 9, 0, 1, 8, 1, -8, 9, 0, 1},
            {2, 20, 17, 18, 1, 15, 1, 2, 9, -1, 9},
            {5, 45, 46, 40, 1, 41, 1, 0, 1, 1, 9},
            {1, 3, 6, 2, 1, 5, 1, -2, 3, -1, 3},
        };
        for (int[] r : rows) {
            ThreeBalls x = green(r[0], r[1], r[2]);
            for (int h = 0; h < 2; h++) {
                for (int what = 0; what < 2; what++) {
                    for (int part = 0; part < 2; part++) {
                        String which = "13: price " + r[0] + ", hand " + h + ", what " + what + ", part " + part;
                        due(which, x.worth(0, h, 1010, what, part), r[3 + 4 * h + 2 * what + part]);
                        due(which + ", never", x.worth(0, 2, 1010, what, part), part == 0 ? -r[0] : 1);
                    }
                }
            }
        }
    }

    private static void leavesTogether() {
        ThreeBalls x = green(1, 9, 999);
        due("14: what it seems does not matter", x.leaves(0, 0), -8);
        due("14: nothing left", x.leaves(1, 0), 0);
        due("14: nothing left, below", x.leaves(1, 1), 1);
        due("14: by the best aim a lean does not matter", x.leaves(2, 0), -8);
        x.stall(1, 505, 1, 2);
        x.set(1, 1, 1);
        due("14: 2 less 1 of 9", x.leaves(1, 0), 17);
        due("14: 2 less 1 of 9, below", x.leaves(1, 1), 9);
        x.stall(3, 1515, 0, 99);
        x.set(2, 1, 999);
        due("14: what never wins leaves its price", x.leaves(1, 0), 17 + 99 * 9);
        x.set(1, 1, 6);
        due("14: 0 and 2 less 6 of 9 and 99, above", x.leaves(1, 0), 301);
        due("14: 0 and 2 less 6 of 9 and 99, below", x.leaves(1, 1), 3);
        ThreeBalls y = new ThreeBalls();
        y.hand(0, 0, 5);
        for (int i = 0; i < 8; i++) {
            y.stall(0, 1010, 9, i % 2 == 0 ? 99 : 1);
            y.set(i, 1, 999);
        }
        due("14: eight stalls", y.leaves(0, 0), 4 * 100 - 8 * 999);
        due("14: eight stalls, below", y.leaves(0, 1), 1);
        for (int i = 0; i < 8; i++) y.set(i, 1, 0);
        due("14: eight stalls, no bears", y.leaves(0, 0), 400);
    }

    private static void outcome(ThreeBalls x, int with, int aim, int coin, int let, long[] want) {
        for (int what = 0; what < 4; what++) {
            due("19: coin " + coin + ", let " + let + ", what " + what, x.player(with, aim, 3, coin, 10 * let + what), want[what]);
        }
    }

    private static void coinOfAPlayer() {
        ThreeBalls x = green(7, 30, 99);
        outcome(x, 0, 1010, 0, 0, new long[] {0, 0, 0, 0});
        outcome(x, 0, 1010, 6, 0, new long[] {0, 0, 6, 0});
        outcome(x, 0, 1010, 7, 0, new long[] {1, 1, 0, -23});
        outcome(x, 0, 1010, 8, 0, new long[] {1, 1, 1, -23});
        outcome(x, 0, 1010, 13, 0, new long[] {1, 1, 6, -23});
        outcome(x, 0, 1010, 14, 0, new long[] {2, 2, 0, -46});
        outcome(x, 0, 0, 14, 0, new long[] {2, 0, 0, 14});
        outcome(x, 0, 0, 14, 0b10, new long[] {2, 1, 0, -16});
        outcome(x, 0, 0, 13, 0b10, new long[] {1, 0, 6, 7});
        x.set(0, 0, 99);
        x.set(0, 1, 999);
        x.set(0, 2, 999);
        outcome(x, 0, 1010, 9999, 0, new long[] {40, 40, 9999 - 40 * 99, 40 * 99 - 40 * 999});
        outcome(x, 0, 1010, 98, 0, new long[] {0, 0, 98, 0});
        outcome(x, 0, 1010, 99, 0, new long[] {1, 1, 0, 99 - 999});
        due("19: a win brings no coin", x.player(0, 1010, 3, 197, 2), 98);
    }

    private static void fortyTries() {
        ThreeBalls x = green(1, 1, 99);
        outcome(x, 0, 1010, 39, 0, new long[] {39, 39, 0, 0});
        outcome(x, 0, 1010, 40, 0, new long[] {40, 40, 0, 0});
        outcome(x, 0, 1010, 41, 0, new long[] {40, 40, 1, 0});
        outcome(x, 0, 1010, 9999, 0, new long[] {40, 40, 9959, 0});
        rule(x, "tries < 39");
        outcome(x, 0, 1010, 41, 0, new long[] {39, 39, 2, 0});
        rule(x, "tries < 40");
        outcome(x, 0, 1010, 41, 0, new long[] {40, 40, 1, 0});
        rule(x, "tries < 41");
        outcome(x, 0, 1010, 42, 0, new long[] {40, 40, 2, 0});
        rule(x, "won < 40");
        outcome(x, 0, 1010, 42, 0, new long[] {40, 40, 2, 0});
        due("19: no tries stay on the green", x.count(2), 0);
        for (int t = 0; t < 60; t++) x.shown(0, 0, 1010, 1);
        outcome(x, 0, 1010, 42, 0, new long[] {40, 40, 2, 0});
    }

    private static void letBits() {
        ThreeBalls x = green(1, 1, 99);
        rule(x, "won = 0");
        for (int bit = 0; bit < 6; bit++) {
            due("19: let win try " + bit + " alone", x.player(2, 1010, 3, 100, 10 * (1 << bit)), bit + 1);
            due("19: won by it", x.player(2, 1010, 3, 100, 10 * (1 << bit) + 1), 1);
        }
        due("19: none let", x.player(2, 1010, 3, 100, 0), 40);
        x.force(0);
        for (int let = 0; let < 64; let++) {
            due("19: let " + let, x.player(2, 1010, 3, 100, 10 * let + 1), Integer.bitCount(let));
            due("19: let " + let + ", but it wins all", x.player(0, 1010, 3, 100, 10 * let + 1), 40);
            due("19: let " + let + ", coin for four", x.player(2, 1010, 3, 4, 10 * let + 1), Integer.bitCount(let & 15));
        }
    }

    private static void lotsOfAPlayer() {
        ThreeBalls x = green(1, 1, 99);
        x.hand(0, 0, 2);
        int[] seeds = {0, 1, 44487, 44488, 77777, 99998, 99999};
        for (int seed : seeds) {
            java.math.BigInteger factor = java.math.BigInteger.valueOf(48271);
            java.math.BigInteger modulus = java.math.BigInteger.valueOf(2147483647);
            java.math.BigInteger lot = java.math.BigInteger.valueOf(seed + 1);
            int won = 0;
            for (int t = 1; t <= 40; t++) {
                lot = lot.multiply(factor).mod(modulus);
                long l = lot.longValue();
                won += l % 3 == 1 && l / 3 % 3 == 1 ? 1 : 0;
                due("19: won of " + t + " by seed " + seed, x.player(1, 1010, seed, t, 1), won);
            }
            due("9: the first lot is the try's", x.tried(0, 1, 1010, seed), x.player(1, 1010, seed, 1, 1));
        }
    }

    private static void textOfAPlayer() {
        ThreeBalls x = green(1, 1, 99);
        rule(x, "0");
        outcome(x, 0, 1010, 9, 0b111111, new long[] {0, 0, 9, 0});
        rule(x, "-1");
        outcome(x, 0, 1010, 9, 0, new long[] {9, 9, 0, 0});
        rule(x, "tries - 5");
        outcome(x, 0, 1010, 9, 0, new long[] {5, 5, 4, 0});
        rule(x, "tries < 3 or won < 2 and tries < 7");
        outcome(x, 2, 1010, 9, 0b11, new long[] {3, 2, 6, 1});
        outcome(x, 2, 1010, 9, 0b10, new long[] {7, 1, 2, 6});
        outcome(x, 2, 1010, 9, 0b110000, new long[] {6, 2, 3, 4});
        rule(x, "odds = 1000 and price = 1 and bear = 1 and seems = 99 and tries = won and tries < 6");
        outcome(x, 0, 1010, 9, 0, new long[] {6, 6, 3, 0});
        outcome(x, 0, 1011, 9, 0, new long[] {0, 0, 9, 0});
    }

    private static void mostOfLikeOnes() {
        ThreeBalls x = green(1, 1, 99);
        due("20: all had by none", x.most(2, 1010, 3, 9999, 6), 0);
        due("20: none had by none", x.most(2, 1010, 3, 0, 6), 0);
        rule(x, "tries < 2 or tries < 6 and won = 1");
        due("20: one of the first two: the least as bits", x.most(2, 1010, 3, 9999, 6), 0b1);
        rule(x, "tries < 2 or won = 2");
        due("20: both of the first two", x.most(2, 1010, 3, 9999, 6), 0b11);
        due("20: one is not enough: none", x.most(2, 1010, 3, 9999, 1), 0);
        rule(x, "won = 0 or tries < 6 and won = 1 or 5 < tries and won = 2");
        due("20: none let goes on longest", x.most(2, 1010, 3, 9999, 6), 0);
        rule(x, "tries < 5 or tries = 5 and won = 0 or won = 1");
        due("20: one of six, the least as bits", x.most(2, 1010, 3, 9999, 6), 0b1);
        rule(x, "tries < 6 and won = 0 or tries = 6 and won = 1 or 6 < tries");
        due("20: the sixth try alone", x.most(2, 1010, 3, 9999, 6), 0b100000);
        due("20: the sixth try, coin for six", x.most(2, 1010, 3, 6, 6), 0);
        ThreeBalls y = green(1, 1, 99);
        rule(y, "tries < 1 or tries = won + won");
        due("20: not more than is thrown", y.most(0, 1010, 3, 9999, 6), 0);
    }

    private static void mostBySoMany() {
        ThreeBalls x = green(1, 1, 99);
        rule(x, "tries = won");
        int[] want = {0, 1, 3, 7, 15, 31, 31};
        for (int many = 0; many <= 6; many++) {
            // With coin for six the sixth has its try by five that were won.
            due("20: so many at most, " + many, x.most(2, 1010, 3, 6, many), want[many]);
            due("20: so many at most, " + many + ", more coin", x.most(2, 1010, 3, 7, many), many == 6 ? 63 : want[many]);
            due("20: a hand that wins needs none, " + many, x.most(0, 1010, 3, 7, many), 0);
        }
    }

    private static void mostOfTheFirstSix() {
        ThreeBalls x = green(1, 1, 99);
        rule(x, "tries < 7 and won = 0 or 6 < tries and won = 1");
        due("20: only the seventh would help: none", x.most(2, 1010, 3, 9999, 6), 0);
        due("19: seven are had", x.player(2, 1010, 3, 9999, 0), 7);
        rule(x, "tries < 5 and won = 0 or tries = 5 and won < 1 or 5 < tries and won = 1");
        due("20: the sixth is let", x.most(2, 1010, 3, 9999, 6), 0b100000);
        due("20: and none, if none may be", x.most(2, 1010, 3, 9999, 0), 0);
        rule(x, "won = tries and tries < 6");
        due("20: six tries by five that are let", x.most(2, 1010, 3, 9999, 6), 0b11111);
        due("20: four of them", x.most(2, 1010, 3, 9999, 4), 0b1111);
    }

    /** 10 times STALL, and HAND: the stalls differ by price, one hand alone wins. */
    private static void withEachStallAndHand() {
        for (int sure = 0; sure < 6; sure++) {
            ThreeBalls x = new ThreeBalls();
            for (int s = 0; s < 8; s++) {
                x.stall(0, 1010, 0, s + 1);
                x.set(s, 2, 99);
            }
            for (int h = 0; h < 6; h++) x.hand(h - sure, 0, 0);
            rule(x, "won = tries");
            for (int s = 0; s < 8; s++) {
                for (int h = 0; h < 6; h++) {
                    int with = 10 * s + h;
                    due("19: with " + with + ", had", x.player(with, 1010, 7, 3 * s + 3, 0), h == sure ? 3 : 1);
                    due("19: with " + with + ", left", x.player(with, 1010, 7, 3 * s + 3, 2), h == sure ? 0 : 2 * s + 2);
                    due("20: with " + with, x.most(with, 1010, 7, 3 * s + 3, 6), h == sure ? 0 : 0b11);
                }
            }
        }
    }

    private static void findTheFewest() {
        ThreeBalls x = new ThreeBalls();
        x.stall(0, 0, 0, 1);
        x.stall(1, 0, 0, 1);
        x.stall(2, 0, 0, 1);
        x.test(10, 12000);
        due("22: one test", x.find(7, 0), 1);
        x.test(5, 10000);
        x.test(5, 1000);
        due("22: like hours, the least as bits", x.find(7, 0), 1);
        due("22: like hours", x.find(7, 1), 10);
        x.test(4, 1000);
        due("22: one hour fewer", x.find(7, 0), 0b1010);
        due("22: one hour fewer", x.find(7, 1), 9);
        x.test(9, 12000);
        due("22: like hours, the least as bits", x.find(7, 0), 0b1010);
        x.test(8, 12000);
        due("22: by the last test", x.find(7, 0), 0b100000);
        due("22: by the last test", x.find(7, 1), 8);
        due("22: two alone", x.find(3, 0), 0b10);
        due("22: the others", x.find(6, 0), 0b1000);
        ThreeBalls y = new ThreeBalls();
        y.stall(5, 0, 0, 1);
        y.stall(4, 0, 0, 1);
        y.test(1, 1);
        due("22: KIND 5's digit is the lowest", y.find(3, 0), 1);
        ThreeBalls z = new ThreeBalls();
        z.stall(0, 0, 0, 1);
        z.stall(5, 0, 0, 1);
        z.test(1, 1);
        due("22: unlike in some of these", z.find(3, 0), 1);
        z.test(1, 333333);
        due("22: like ones don't undo it", z.find(3, 0), 1);
    }

    private static void findByBits() {
        int[] kinds = {0, 0, 1, 2, 3, 4, 5, 5};
        ThreeBalls x = eachKindToldApart(kinds);
        for (int set = 0; set < 256; set++) {
            // Test t tells kind t from all others; of the kinds that are there one may be left untold.
            int there = 0;
            for (int i = 0; i < 8; i++) there |= (set >> i & 1) << kinds[i];
            int needed = there & 31;
            if (there < 32 && there != 0) needed = there & ~Integer.lowestOneBit(there);
            int hours = 0;
            for (int t = 0; t < 5; t++) hours += (needed >> t & 1) * (20 - t);
            due("22: stalls " + set, x.find(set, 0), needed);
            due("22: hours for " + set, x.find(set, 1), hours);
            if (set % 100 == 99) x = eachKindToldApart(kinds);
        }
    }

    private static ThreeBalls eachKindToldApart(int[] kinds) {
        ThreeBalls x = new ThreeBalls();
        for (int kind : kinds) x.stall(kind, 0, 0, 1);
        int place = 100000;
        for (int t = 0; t < 5; t++) {
            x.test(20 - t, place);
            place /= 10;
        }
        return x;
    }

    private static void yearByHours() {
        ThreeBalls x = new ThreeBalls();
        for (int i = 0; i < 8; i++) x.stall(1, 0, 0, 99);
        Checks.read(x, "play 1;skill 1;leave price;");
        x.force(1);
        int[][] rows = {{0, 0, 0, 0}, {98, 0, 0, 0}, {99, 1, 1, 99}, {197, 1, 1, 99}, {198, 3, 2, 198}, {199, 3, 2, 198}};
        for (int[] r : rows) {
            for (int what = 0; what < 3; what++) due("23: of 99 each, " + r[0] + " hours, " + what, x.year(r[0], what), r[1 + what]);
        }
        for (int i = 0; i < 8; i++) x.set(i, 0, 25);
        due("23: seven of 25", x.year(199, 0), 127);
        due("23: seven of 25", x.year(175, 0), 127);
        due("23: six of 25", x.year(174, 0), 63);
        x.set(0, 0, 24);
        due("23: all eight", x.year(199, 0), 255);
        due("23: all eight", x.year(199, 2), 199);
        due("23: without the last", x.year(198, 0), 127);
        x.force(0);
        due("23: two each", x.year(16, 0), 255);
        due("23: one too few", x.year(15, 0), 127);
        due("23: one look", x.year(2, 0), 1);
        due("23: no look", x.year(1, 0), 0);
    }

    private static void yearOfLikeOnes() {
        ThreeBalls x = new ThreeBalls();
        x.stall(0, 0, 0, 1);
        x.stall(3, 0, 0, 6);
        x.stall(1, 0, 0, 3);
        x.stall(2, 0, 0, 3);
        x.stall(5, 0, 0, 5);
        Checks.read(x, "play 1;skill 1;leave price;");
        x.force(1);
        due("23: what finds none is left", x.year(199, 0), 0b11110);
        due("23: what finds none is left", x.year(2, 0), 0);
        due("23: the least as bits of like ones", x.year(3, 0), 0b100);
        due("23: most found, of like ones the fewest hours", x.year(6, 0), 0b10000);
        due("23: its hours", x.year(6, 2), 5);
        due("23: found", x.year(6, 1), 2);
        x.set(4, 0, 6);
        due("23: like hours, the least as bits", x.year(6, 0), 0b10);
        x.set(4, 3, 1);
        due("23: set it finds one more", x.year(6, 0), 0b10000);
        due("23: set it finds one more", x.year(6, 1), 3);
        due("23: one hour fewer", x.year(5, 0), 0b100);
    }

    private static ThreeBalls hands() {
        ThreeBalls x = new ThreeBalls();
        x.hand(0, 0, 0);
        x.hand(0, 0, 1);
        x.hand(0, 0, 5);
        x.hand(5, -5, 0);
        return x;
    }

    private static void make(String what, int[] a, int want) {
        due("24: " + what, hands().make(a[0], a[1], a[2], a[3], a[4]), want);
    }

    private static void makeAtItsBounds() {
        make("as much as can be left", new int[] {0, 0, 0, 0, 99}, 99);
        make("a bear of 1 leaves less", new int[] {0, 0, 1, 0, 99}, NONE);
        make("a bear of 1 leaves 98", new int[] {0, 0, 1, 0, 98}, 99);
        make("the dearest bear, the least price", new int[] {0, 0, 999, 1000, -998}, 1);
        make("the dearest bear, a price more", new int[] {0, 0, 999, 1000, -997}, 2);
        make("the dearest bear, the greatest price", new int[] {0, 0, 999, 1000, -900}, 99);
        make("the dearest bear, no price", new int[] {0, 0, 999, 1000, -899}, NONE);
        make("as little as may be left", new int[] {0, 0, 999, 0, -999}, 1);
        make("odds of 0 are enough", new int[] {3, 0, 999, 0, 1}, 1);
        make("odds of 1 are not", new int[] {3, 0, 999, 1, 1}, NONE);
        make("all odds", new int[] {3, 0, 0, 1000, 1}, 101);
        make("a lean does not matter", new int[] {0, 3, 10, 1000, 0}, 10);
        make("size 9 of eleven", new int[] {0, 2, 0, 1000, 1}, 501);
        make("size 4 of eleven: 81 of 121 is 669", new int[] {0, 2, 0, 669, 1}, 401);
        make("size 4 is not 670", new int[] {0, 2, 0, 670, 1}, 501);
        make("tight of size 9: 110 of 121 is 909", new int[] {2, 2, 0, 909, 1}, 901);
        make("size 0: 1 of 121 is 8", new int[] {0, 2, 0, 8, 1}, 1);
        make("size 0 is not 9", new int[] {0, 2, 0, 9, 1}, 101);
        make("heavy of size 8", new int[] {1, 2, 0, 669, 1}, 801);
        make("heavy is not 670", new int[] {1, 2, 0, 670, 1}, NONE);
    }

    private static void makeOfLikeOnes() {
        // One hand of 9 throws: size 0 wins one, sizes 1 .. 9 win all.
        make("no bear: the least size and price", new int[] {0, 1, 0, 0, -999}, 1);
        make("no bear, size 1 is needed", new int[] {0, 1, 0, 112, 7}, 107);
        make("10 of 9 leave 8 of 9 at a price of 2", new int[] {0, 1, 10, 0, 0}, 110);
        make("fractions: at least 1 is left by size 0 at 3 or size 1 at 11", new int[] {0, 1, 10, 0, 1}, 111);
        make("fractions: 18 of 9 are 2", new int[] {0, 1, 18, 0, 0}, 2);
        make("and by size 1", new int[] {0, 1, 18, 112, 0}, 118);
        make("like ones: the least size, though dearer is the other", new int[] {0, 1, 9, 0, 4}, 5);
        make("below 0 the most that is lost", new int[] {0, 1, 50, 0, -50}, 101);
        make("not lower than told", new int[] {0, 1, 50, 0, -48}, 102);
        make("-1 is less than -5 of 9", new int[] {0, 1, 14, 0, -1}, 113);
        make("size 1 would need a price of 100", new int[] {0, 1, 100, 0, 0}, 12);
        make("size 1 at 99 leaves as much: the least size", new int[] {0, 1, 99, 0, 0}, 11);
        make("drawn of size 1 by a sure hand", new int[] {4, 0, 7, 1000, 0}, 7);
        make("gaffed, not set", new int[] {5, 1, 9, 1000, 0}, 109);
    }

    private static ThreeBalls walkers() {
        ThreeBalls x = new ThreeBalls();
        x.stall(0, 1010, 0, 5);
        x.stall(0, 505, 0, 3);
        x.hand(0, 0, 1);
        x.hand(0, 0, 0);
        return x;
    }

    private static void walkByCoin() {
        ThreeBalls x = walkers();
        int ninths = 1000000;
        int tries = 0;
        for (int coin = 0; coin <= 200; coin++) {
            if (coin / 3 > tries) {
                ninths = (int) (ninths * 8L / 9);
                tries++;
            }
            due("25: coin " + coin, x.walk(0, coin, 0), ninths);
            due("25: begin with coin " + coin, x.walk(0, coin, 1), coin < 3 ? NONE : coin % 3 == 2 && coin > 2 ? 0 : 1);
        }
        due("25: a sure hand, no coin", x.walk(1, 2, 0), 1000000);
        due("25: a sure hand, no coin", x.walk(1, 2, 1), NONE);
        due("25: a sure hand", x.walk(1, 3, 0), 0);
        due("25: a sure hand", x.walk(1, 3, 1), 1);
        due("25: a sure hand, either", x.walk(1, 5, 1), 0);
    }

    private static void walkCuts() {
        ThreeBalls x = new ThreeBalls();
        x.stall(0, 1010, 0, 1);
        x.hand(0, 0, 1);
        x.hand(0, 0, 5);
        int fail = 1000000;
        for (int t = 1; t <= 200; t++) {
            fail = (int) (fail * 8L / 9);
            due("25: cut at each of " + t, x.walk(0, t, 0), fail);
        }
        fail = 1000000;
        for (int t = 1; t <= 200; t++) {
            fail = (int) (fail * 120L / 121);
            due("25: cut at each of " + t + " by 121", x.walk(1, t, 0), fail);
        }
        x.set(0, 3, 1);
        due("25: a plain stall that is set is the same", x.walk(1, 200, 0), fail);
        ThreeBalls y = new ThreeBalls();
        y.stall(5, 1010, 1, 1);
        y.hand(0, 0, 0);
        y.hand(0, 0, 1);
        due("25: as it is set: not", y.walk(1, 1, 0), 0);
        y.set(0, 3, 1);
        due("25: as it is set", y.walk(1, 1, 0), 888888);
        due("25: as it is set, a sure hand", y.walk(0, 1, 0), 0);
    }

    private static void walkBegins() {
        ThreeBalls x = new ThreeBalls();
        x.stall(3, 1010, 0, 99);
        x.stall(0, 1010, 1, 99);
        x.hand(0, 0, 1);
        due("25: the first try that helps", x.walk(0, 99, 1), 1);
        due("25: no coin for one that never wins ahead of it", x.walk(0, 197, 1), 1);
        due("25: coin for one that never wins ahead of it", x.walk(0, 198, 1), 0);
        due("25: too little", x.walk(0, 98, 1), NONE);
        due("25: all fails away", x.walk(0, 99, 0), 0);
        ThreeBalls y = new ThreeBalls();
        for (int i = 0; i < 8; i++) y.stall(0, 1010, 7 - i, 8 - i);
        y.hand(0, 0, 5);
        due("25: the last alone can be had", y.walk(0, 1, 1), 7);
        due("25: the last alone can be had", y.walk(0, 1, 0), 991735);
        due("25: size 5 wins all", y.walk(0, 6, 0), 0);
        due("25: size 5 wins all", y.walk(0, 6, 1), 2);
        due("25: size 6 does, too", y.walk(0, 7, 1), 1);
        due("25: size 7 does, too", y.walk(0, 8, 1), 0);
        due("25: not yet", y.walk(0, 5, 0), (int) (1000000L * 40 / 121));
        due("25: not yet", y.walk(0, 5, 1), 3);
    }
}
