/** Promises 13 to 20: worth, texts, players. */
public final class PlayersTest {
    private static final Checks CHECKS = new Checks("PlayersTest");
    private static final int MIN = Integer.MIN_VALUE, MAX = Integer.MAX_VALUE;

    public static void main(String[] args) {
        promise13();
        promise14();
        promise15();
        promise16();
        faults();
        promise17();
        promise18();
        promise19();
        promise20();
        CHECKS.end();
    }

    private static void due(String what, long got, long want) {
        CHECKS.due(what, got, want);
    }

    private static void promise13() {
        ThreeBalls x = Greens.priced();
        // 9 of 25 times 30 less 5 is 145 of 25.
        due("13: worth, top", x.worth(0, 0, 1010, 0, 0), 29);
        due("13: worth, bottom", x.worth(0, 0, 1010, 0, 1), 5);
        // 9 of 25 times 40 less 5 is 235 of 25.
        due("13: seeming, top", x.worth(0, 0, 1010, 1, 0), 47);
        due("13: seeming, bottom", x.worth(0, 0, 1010, 1, 1), 5);
        due("13: below 0, top", x.worth(0, 0, 0, 0, 0), -5);
        due("13: below 0, bottom", x.worth(0, 0, 0, 0, 1), 1);
        x.set(0, 1, 25);
        x.set(0, 0, 9);
        due("13: nothing, top", x.worth(0, 0, 1010, 0, 0), 0);
        due("13: nothing, bottom", x.worth(0, 0, 1010, 0, 1), 1);
        x.set(0, 1, 1);
        due("13: a fraction below 0, top", x.worth(0, 0, 1010, 0, 0), 9 - 9 * 25);
        due("13: a fraction below 0, bottom", x.worth(0, 0, 1010, 0, 1), 25);
        int[][] wrong = {
            {-1, 0, 0, 0, 0}, {1, 0, 0, 0, 0}, {0, -1, 0, 0, 0}, {0, 1, 0, 0, 0}, {0, 0, -1, 0, 0}, {0, 0, 20, 0, 0},
            {0, 0, 2000, 0, 0}, {0, 0, 0, -1, 0}, {0, 0, 0, 2, 0}, {0, 0, 0, 0, -1}, {0, 0, 0, 0, 2}, {MIN, MAX, MIN, MAX, MIN},
        };
        for (int[] w : wrong) {
            due("13: wrong", x.worth(w[0], w[1], w[2], w[3], w[4]), ThreeBalls.NO);
        }
    }

    private static void promise14() {
        ThreeBalls x = new ThreeBalls();
        due("14: no hand", x.leaves(0, 0), ThreeBalls.NO);
        x.hand(0, 0, 2);
        due("14: no stalls, top", x.leaves(0, 0), 0);
        due("14: no stalls, bottom", x.leaves(0, 1), 1);
        x.stall(0, 1010, 1, 5);
        x.set(0, 1, 3);
        // 5 less 27 of 25.
        due("14: one, top", x.leaves(0, 0), 98);
        due("14: one, bottom", x.leaves(0, 1), 25);
        x.stall(5, 1010, 9, 7);
        x.set(1, 1, 10);
        // Not set it always pays: 98 of 25 and 7 less 10.
        due("14: two, top", x.leaves(0, 0), 23);
        due("14: two, bottom", x.leaves(0, 1), 25);
        x.set(1, 3, 1);
        // Set it pays by 5 of 25: 98 of 25 and 7 less 2.
        due("14: two, one set, top", x.leaves(0, 0), 223);
        due("14: wrong hand", x.leaves(1, 0), ThreeBalls.NO);
        due("14: wrong hand", x.leaves(-1, 0), ThreeBalls.NO);
        due("14: wrong part", x.leaves(0, 2), ThreeBalls.NO);
        due("14: wrong part", x.leaves(0, -1), ThreeBalls.NO);
    }

    private static void promise15() {
        ThreeBalls x = Greens.priced();
        due("15: n 0", x.feed(0, 1), ThreeBalls.BAD);
        due("15: n 9", x.feed(9, 1), ThreeBalls.BAD);
        due("15: n least", x.feed(MIN, 1), ThreeBalls.BAD);
        due("15: nothing came", x.count(5), 0);
        due("15: three of eight", x.feed(3, -1L), 3);
        due("15: more", x.feed(8, 0), 11);
        for (int i = 0; i < 18; i++) {
            x.feed(8, 0);
        }
        due("15: 155", x.count(5), 155);
        due("15: six more have no room", x.feed(6, 0), ThreeBalls.FULL);
        due("15: wrong ahead of full", x.feed(9, 0), ThreeBalls.BAD);
        due("15: 155 still", x.count(5), 155);
        due("15: five have", x.feed(5, 0), 160);
        due("15: no more", x.feed(1, 0), ThreeBalls.FULL);
        due("15: the lowest byte first", x.text(), -100);
        x.feed(4, 0x79616c70L);
        x.feed(8, 0x203b30303b203120L);
        due("15: play 1 ;00; is read so far", x.text(), -108);
        x.feed(2, 0x2020L);
        x.feed(1, 0xffL);
        due("15: bytes above 127 are no token", x.text(), -102);
    }

    private static void promise16() {
        ThreeBalls x = new ThreeBalls();
        due("16: empty", x.text(), -100);
        for (int i = 1; i < 6; i++) {
            due("16: text", Checks.read(x, "play 1;skill 2;leave " + i + ";"), i);
            due("16: the tape is empty", x.count(5), 0);
            if (i < 3) {
                due("16: a fault", Checks.read(x, "play 1 skill"), -107);
                due("16: the tape is empty by a fault", x.count(5), 0);
            }
            due("16: texts", x.count(4), i + 1);
        }
        Checks.feed(x, "wrong");
        due("16: full ahead of all", x.text(), ThreeBalls.FULL);
        due("16: the tape stays", x.count(5), 5);
    }

    private static void fault(String text, int place) {
        due("16: " + text.replace('\n', '/'), Checks.read(new ThreeBalls(), text), place < 0 ? 1 : -100 - place);
    }

    private static void faults() {
        String rest = ";skill 1;leave 1;";
        String[] right = {
            "1", "0001", "9999", "odds", "price", "bear", "seems", "won", "tries", "-1", "-----1", "(((((1)))))",
            "not not not not not 1", "not-(not(1))", "1+2-3*4", "1<2", "1=2 and 3<4 or not 5=6", "(1<2)<3", "1--1",
            "not 1<2", "-(1)+-(2)", "(1)+(2)", "((((1))))+((((1))))", "not(1)and not(1)", "(((((1)+1)+1)+1)+1)",
            "not not not not not 1 and not not not not not 1", "1\n+\n1", "-----1*-----1",
        };
        for (String e : right) {
            fault("play " + e + rest, -1);
            fault("\n play " + e + " ;\nskill 1;leave 1; \n", -1);
        }
        fault("", 0);
        fault("  ", 2);
        fault("play", 4);
        fault("play ", 5);
        fault("skill 1;", 0);
        fault("play 1;leave 1;", 7);
        fault("play 1;skill 1;", 15);
        fault("play 1;skill 1;leave 1", 22);
        fault("play 1;skill 1;leave 1;;", 23);
        fault("play 1;skill 1;leave 1; 1", 24);
        fault("play 1;skill 1;leave 1; %", 24);
        fault("play 1;skill 1;leave 1;play", 23);
        fault("play;", 4);
        fault("play1;skill2;leave3;", -1);
        fault("playodds;", 0);
        fault("Play 1;", 0);
        fault("play 1\t;", 6);
        fault("play 1\r;", 6);
        fault("play 12345;", 5);
        fault("play 00001;", 5);
        fault("play 1 12345;", 7);
        fault("play 12a;", 7);
        fault("play odd;", 5);
        fault("play oddss;", 5);
        fault("play skill;", 5);
        fault("play 1 + ;", 9);
        fault("play + 1;", 5);
        fault("play 1 * * 2;", 9);
        fault("play 1 < 2 < 3;", 11);
        fault("play 1 = 2 = 3;", 11);
        fault("play 1 < not 2;", 9);
        fault("play 1 + not 2;", 9);
        fault("play - not 2;", 7);
        fault("play not;", 8);
        fault("play (1;", 7);
        fault("play 1);", 6);
        fault("play ();", 6);
        fault("play 1 and;", 10);
        fault("play 1 or or 2;", 10);
        fault("play 1 2;", 7);
        fault("play 1 not 2;", 7);
        fault("play 1 (2);", 7);
        fault("play ------1;", 10);
        fault("play ((((((1));", 10);
        fault("play not not not not not not 1;", 25);
        fault("play not(-(not(1)));", 14);
        fault("play not-(not(-1));", 14);
        fault("play not(-(-(1)));", 12);
        fault("play (((((not 1)))));", 10);
        fault("play (((((-1)))));", 10);
        fault("play ((((-(1)))));", 10);
        fault("play !;", 5);
        fault("play 1 ! 12345 ;", 7);
        fault("play 1 $", 7);
        fault("play z;", 5);
        fault("play zodds;", 5);
        fault("play oddsz;", 5);
        fault("play pdds;", 5);
        fault("play ,;", 5);
        fault("play a;", 5);
        fault("play /;", 5);
        fault("play :;", 5);
        fault("play `;", 5);
        fault("play {;", 5);
        fault("play 1>2;", 6);
        fullTape("+", 71);
        fullTape("*", 1);
        fullTape("-", 1 - 70);
    }

    private static void fullTape(String sign, int comesTo) {
        String e = ("1" + sign).repeat(70) + "1";
        fault("play" + e + ";skill1;leave1 ", 160);
        fault("play" + e + ";skill1;leave1$", 159);
        ThreeBalls x = Greens.priced();
        due("16: all of a full tape", Checks.read(x, "play" + e + ";skill1;leave1;"), 1);
        x.force(1);
        due("16: all of a full tape, by " + sign, x.says(0, 0, 0, 0, 0), comesTo);
    }

    private static void promise17() {
        ThreeBalls x = Greens.priced();
        due("17: which was", x.force(0), 0);
        due("17: none such", x.force(1), ThreeBalls.BAD);
        Checks.read(x, "play 0;skill 7;leave 9;");
        due("17: which was", x.force(1), 0);
        due("17: the rule", x.count(6), 1);
        due("17: it holds", x.says(0, 0, 1010, 1, 0), 7);
        due("17: below 0", x.force(-1), ThreeBalls.BAD);
        due("17: too great", x.force(MAX), ThreeBalls.BAD);
        due("17: too small", x.force(MIN), ThreeBalls.BAD);
        due("17: the rule still", x.count(6), 1);
        due("17: which was", x.force(0), 1);
    }

    private static long playOf(String e) {
        ThreeBalls x = Greens.priced();
        due("18: " + e, Checks.read(x, "play " + e + ";skill " + e + ";leave 1;"), 1);
        x.force(1);
        return x.says(0, 0, 1010, 0, 309);
    }

    private static void promise18() {
        due("18: odds", playOf("odds"), 360);
        due("18: price", playOf("price"), 5);
        due("18: bear", playOf("bear"), 30);
        due("18: seems", playOf("seems"), 40);
        due("18: won", playOf("won"), 3);
        due("18: tries", playOf("tries"), 9);
        due("18: left to right", playOf("9-4-3"), 2);
        due("18: times first", playOf("1+2*3"), 7);
        due("18: minus of a one alone", playOf("-2*3"), -6);
        due("18: minus of a one alone", playOf("-2+3"), 1);
        due("18: brackets", playOf("(1+2)*3"), 9);
        due("18: not of a comparison", playOf("not 1<2"), 0);
        due("18: not", playOf("not 0"), 1);
        due("18: not", playOf("not 7"), 0);
        due("18: not ahead of and", playOf("not 1 and 0"), 0);
        due("18: and ahead of or", playOf("1 or 0 and 0"), 1);
        due("18: and is 1", playOf("5 and 7"), 1);
        due("18: or is 1", playOf("0 or 7"), 1);
        due("18: or is 0", playOf("0 or 0"), 0);
        due("18: less", playOf("-1<0"), 1);
        due("18: not less", playOf("0<0"), 0);
        due("18: like", playOf("3=won"), 1);
        due("18: unlike", playOf("3=tries"), 0);
        due("18: a long row of or", playOf("0 or 0 or 0 or 0 or 0 or 1"), 1);
        due("18: a long row of and", playOf("1 and 1 and 1 and 1 and 0"), 0);
        due("18: more than its part", playOf("99"), 99);
        due("18: wrapping", playOf("9999*9999*9999"), 9999 * 9999 * 9999);
        due("18: wrapping less", playOf("9999*9999*9999*9999<0"), 9999 * 9999 * 9999 * 9999 < 0 ? 1 : 0);
        ThreeBalls x = Greens.priced();
        due("18: the first rule plays", x.says(0, 0, 1010, 0, 0), 1);
        due("18: the first rule calls it skill", x.says(0, 0, 1010, 1, 0), 1);
        due("18: no skill without odds", x.says(0, 0, 0, 1, 0), 0);
        due("18: by what it seems", x.says(0, 0, 0, 0, 0), 1);
        x.set(0, 2, 5);
        due("18: no more", x.says(0, 0, 0, 0, 0), 0);
        Checks.read(x, "play 100*won+tries;skill 1+100*won+tries;leave 1;");
        x.force(1);
        due("18: had", x.says(0, 0, 0, 0, 9999), 9999);
        due("18: had", x.says(0, 0, 0, 0, 100), 100);
        due("18: had", x.says(0, 0, 0, 0, 1), 1);
        due("18: skill knows none", x.says(0, 0, 0, 1, 9999), 1);
        int[][] wrong = {
            {-1, 0, 0, 0, 0}, {1, 0, 0, 0, 0}, {0, -1, 0, 0, 0}, {0, 1, 0, 0, 0}, {0, 0, -1, 0, 0}, {0, 0, 20, 0, 0},
            {0, 0, 0, -1, 0}, {0, 0, 0, 2, 0}, {0, 0, 0, 0, -1}, {0, 0, 0, 0, 10000}, {0, 0, 0, 1, -1}, {MIN, MAX, MIN, MAX, MIN},
        };
        for (int[] w : wrong) {
            due("18: wrong", x.says(w[0], w[1], w[2], w[3], w[4]), ThreeBalls.NO);
        }
    }

    private static void promise19() {
        ThreeBalls x = Greens.priced();
        x.hand(0, 0, 0);
        // A hand that always wins.
        due("19: had by coin", x.player(1, 1010, 3, 23, 0), 4);
        due("19: won", x.player(1, 1010, 3, 23, 1), 4);
        due("19: coin left", x.player(1, 1010, 3, 23, 2), 3);
        due("19: lost", x.player(1, 1010, 3, 23, 3), 4 * 5 - 4 * 30);
        due("19: the last coin, too", x.player(1, 1010, 3, 20, 0), 4);
        due("19: too little", x.player(1, 1010, 3, 4, 0), 0);
        due("19: forty at most", x.player(1, 1010, 3, 9999, 0), 40);
        due("19: coin left", x.player(1, 1010, 3, 9999, 2), 9799);
        // A hand that never wins, but by being let.
        due("19: none won", x.player(1, 0, 3, 100, 1), 0);
        due("19: three let", x.player(1, 0, 3, 100, 10 * 0b101010 + 1), 3);
        due("19: let, but no coin for it", x.player(1, 0, 3, 15, 10 * 0b101010 + 1), 1);
        due("19: let bears cost", x.player(1, 0, 3, 100, 630 + 3), 100 - 180);
        due("19: no tries came", x.count(2), 0);
        due("19: no coin", x.player(1, 1010, 3, 0, 0), 0);
        lotsOfAPlayer();
        stopsByText(x);
        withOthers();
        int[][] wrong = {
            {-1, 0, 0, 0, 0}, {2, 0, 0, 0, 0}, {10, 0, 0, 0, 0}, {9, 0, 0, 0, 0}, {0, -1, 0, 0, 0}, {0, 20, 0, 0, 0}, {0, 2000, 0, 0, 0},
            {0, 0, -1, 0, 0}, {0, 0, 100000, 0, 0}, {0, 0, 0, -1, 0}, {0, 0, 0, 10000, 0}, {0, 0, 0, 0, -1}, {0, 0, 0, 0, 4},
            {0, 0, 0, 0, 9}, {0, 0, 0, 0, 634}, {0, 0, 0, 0, 640}, {0, 0, 0, 0, MAX}, {MIN, MIN, MIN, MIN, MIN}, {MAX, 0, 0, 0, 0},
        };
        for (int[] w : wrong) {
            due("19: wrong", x.player(w[0], w[1], w[2], w[3], w[4]), ThreeBalls.NO);
        }
    }

    private static void lotsOfAPlayer() {
        ThreeBalls x = Greens.priced();
        long lot = 78;
        int won = 0;
        int wonIfLet = 0;
        for (int t = 0; t < 20; t++) {
            lot = lot * 48271 % 2147483647L;
            boolean wins = Math.abs(lot % 5 - 2) <= 1 && Math.abs(lot / 5 % 5 - 2) <= 1;
            won += wins ? 1 : 0;
            wonIfLet += wins || t == 0 || t == 5 ? 1 : 0;
        }
        due("19: won by lots", x.player(0, 1010, 77, 100, 1), won);
        due("19: lots go on when let", x.player(0, 1010, 77, 100, 10 * 0b100001 + 1), wonIfLet);
    }

    /** Three stalls that differ by price, four hands of which the third alone wins. */
    private static void withOthers() {
        ThreeBalls x = new ThreeBalls();
        for (int i = 0; i < 3; i++) {
            x.stall(0, 1505, 0, 10 * i + 10);
            x.set(i, 2, 999);
        }
        for (int i = 0; i < 4; i++) {
            x.hand(i - 2, 0, 0);
        }
        for (int stall = 0; stall < 3; stall++) {
            for (int hand = 0; hand < 4; hand++) {
                int with = 10 * stall + hand;
                int had = 120 / (10 * stall + 10);
                due("19: with " + with, x.player(with, 1505, 0, 120, 0), had);
                due("19: with " + with, x.player(with, 1505, 0, 120, 1), hand == 2 ? had : 0);
            }
        }
        Checks.read(x, "play won = 0 and tries < 9; skill 1; leave 1;");
        Checks.read(x, "play won = tries and tries < 9; skill 1; leave 1;");
        x.force(1);
        due("20: stops when the third hand wins", x.player(22, 1505, 0, 999, 0), 1);
        due("20: another hand goes on", x.player(23, 1505, 0, 999, 0), 9);
        x.force(2);
        due("20: the third hand needs none", x.most(22, 1505, 0, 999, 6), 0);
        due("20: another hand needs all", x.most(23, 1505, 0, 999, 6), 63);
        due("20: by coin", x.most(23, 1505, 0, 119, 6), 0b11);
        due("20: by coin", x.most(13, 1505, 0, 119, 6), 0b1111);
        due("20: by coin", x.most(3, 1505, 0, 69, 6), 0b11111);
    }

    private static void stopsByText(ThreeBalls x) {
        Checks.read(x, "play won < 2 ; skill 1 ; leave 1;");
        x.force(1);
        due("19: stops by won", x.player(1, 1010, 3, 100, 0), 2);
        due("19: goes on", x.player(1, 0, 3, 100, 0), 20);
        due("19: stops when let", x.player(1, 0, 3, 100, 10 * 0b1010), 4);
        Checks.read(x, "play tries < 7 ; skill 1 ; leave 1;");
        x.force(2);
        due("19: stops by tries", x.player(1, 0, 3, 100, 0), 7);
        Checks.read(x, "play tries - 3; skill 1 ; leave 1;");
        x.force(3);
        due("19: what is not 0 is true", x.player(1, 0, 3, 100, 0), 3);
        x.force(0);
    }

    private static void promise20() {
        ThreeBalls x = Greens.priced();
        x.hand(0, 0, 0);
        // Goes on while more than half of the tries were won; the hand never wins.
        Checks.read(x, "play tries = 0 or tries < won * 2; skill 1; leave 1;");
        x.force(1);
        due("20: none let", x.most(1, 0, 3, 9999, 0), 0);
        due("20: one let", x.most(1, 0, 3, 9999, 1), 0b1);
        due("20: two let", x.most(1, 0, 3, 9999, 2), 0b11);
        due("20: three let", x.most(1, 0, 3, 9999, 3), 0b111);
        due("20: six let", x.most(1, 0, 3, 9999, 6), 0b111111);
        due("20: six let, had", x.player(1, 0, 3, 9999, 630), 12);
        due("20: coin for two", x.most(1, 0, 3, 10, 6), 0b1);
        // Goes on till one is won, but for the third.
        Checks.read(x, "play won = 0 or tries = 3 and won = 1; skill 1; leave 1;");
        x.force(2);
        due("20: the least of like ones", x.most(1, 0, 3, 9999, 6), 0);
        // Goes on only if the fourth alone is won.
        Checks.read(x, "play tries < 4 and won = 0 or 3 < tries and won = 1; skill 1; leave 1;");
        x.force(3);
        due("20: the fourth alone", x.most(1, 0, 3, 9999, 6), 0b1000);
        due("20: the fourth alone", x.most(1, 0, 3, 9999, 1), 0b1000);
        due("20: none may be let", x.most(1, 0, 3, 9999, 0), 0);
        due("20: no coin", x.most(1, 0, 3, 4, 6), 0);
        int[][] wrong = {
            {-1, 0, 0, 0, 0}, {2, 0, 0, 0, 0}, {10, 0, 0, 0, 0}, {0, -1, 0, 0, 0}, {0, 20, 0, 0, 0}, {0, 0, -1, 0, 0},
            {0, 0, 100000, 0, 0}, {0, 0, 0, -1, 0}, {0, 0, 0, 10000, 0}, {0, 0, 0, 0, -1}, {0, 0, 0, 0, 7}, {MIN, MAX, MIN, MAX, MIN},
        };
        for (int[] w : wrong) {
            due("20: wrong", x.most(w[0], w[1], w[2], w[3], w[4]), ThreeBalls.BAD);
        }
    }
}
