/** Boundary cases of texts: tokens, faults, what may be open, and what an E comes to. */
public final class WordsTest {
    private static final Checks CHECKS = new Checks("WordsTest");
    private static final String REST = ";skill 1;leave 1;";
    private static final String[] NAMES = {"odds", "price", "bear", "seems", "won", "tries"};
    private static final String[] KEYS = {"play", "skill", "leave", "or", "and", "not"};
    // The greatest int by numbers of four digits, and one more, which wraps.
    private static final String GREATEST = "9999*9999*21+4790*9999+8416";
    private static final String LEAST = GREATEST + "+1";

    public static void main(String[] args) {
        everyByteWhereAValueIsDue();
        everyByteBehindAValue();
        everyByteAheadOfAll();
        numbersOfDigits();
        everyNumber();
        wordsAsLongAsCanBe();
        endsTooEarly();
        theFirstFault();
        behindTheEnd();
        tapesThatWere();
        whereEachTokenCanStand();
        openOnes();
        closedOnes();
        openOnesMixed();
        wrapping();
        bitsOfTruth();
        ranks();
        hoursOfALook();
        valuesAtTheirBounds();
        theFirstRule();
        CHECKS.end();
    }

    private static void due(String what, long got, long want) {
        CHECKS.due(what, got, want);
    }

    /** The place of the fault, or -1 where there is none. */
    private static int faultOf(String text) {
        int answer = Checks.read(new ThreeBalls(), text);
        return answer == 1 ? -1 : -100 - answer;
    }

    private static void fault(String text, int place) {
        due("16: " + text.replace('\n', '/'), faultOf(text), place);
    }

    private static void right(String e) {
        fault("play " + e + REST, -1);
    }

    private static boolean isDigit(int c) {
        return c >= '0' && c <= '9';
    }

    private static boolean isBlank(int c) {
        return c == 32 || c == 10;
    }

    private static void everyByteWhereAValueIsDue() {
        for (int c = 0; c < 256; c++) {
            int want = isDigit(c) ? -1 : isBlank(c) || c == '(' || c == '-' ? 7 : 5;
            due("16: byte " + c + " where a value is due", faultOf("play " + (char) c + " " + REST), want);
        }
    }

    private static void everyByteBehindAValue() {
        for (int c = 0; c < 256; c++) {
            boolean joins = "+-*<=".indexOf(c) >= 0;
            int want = isDigit(c) || joins ? -1 : isBlank(c) || c == ';' ? 7 : 6;
            due("16: byte " + c + " behind a value", faultOf("play 1" + (char) c + "2" + REST), want);
        }
    }

    private static void everyByteAheadOfAll() {
        for (int c = 0; c < 256; c++) {
            due("16: byte " + c + " ahead of all", faultOf((char) c + Greens.RIGHT), isBlank(c) ? -1 : 0);
            due("16: byte " + c + " behind all", faultOf(Greens.RIGHT + (char) c), isBlank(c) ? -1 : 23);
            due("16: byte " + c + " alone", faultOf("" + (char) c), isBlank(c) ? 1 : 0);
        }
    }

    private static void numbersOfDigits() {
        String[] taken = {"0", "9", "00", "10", "000", "999", "0000", "0001", "1000", "9999"};
        for (String n : taken) right(n);
        String[] tooLong = {"00000", "00001", "10000", "99999", "123456", "0000000000", "99999999999999999999"};
        for (String n : tooLong) {
            fault("play " + n + REST, 5);
            fault("play 1 + " + n + REST, 9);
            fault("play 1;skill " + n + ";leave 1;", 13);
            fault("play (" + n, 6);
        }
        fault("play 1234 5" + REST, 10);
        fault("play 1234\n5" + REST, 10);
        fault("1234", 0);
        fault("12345", 0);
        fault("play 1;12345", 7);
        due("18: zeros ahead", playOf("0012"), 12);
        due("18: the greatest number", playOf("9999"), 9999);
    }

    private static void everyNumber() {
        for (int n = 0; n <= 9999; n++) {
            ThreeBalls x = Greens.priced();
            due("16: number " + n, Checks.read(x, "play " + n + ";skill -" + n + ";leave 1;"), 1);
            x.force(1);
            due("18: number " + n, x.says(0, 0, 0, 0, 0), n);
            due("18: number " + n + " below 0", x.says(0, 0, 0, 1, 0), -n);
            fault(Greens.RIGHT + n, 23);
            fault("play 1 " + n + REST, 7);
            fault("play " + n, 5 + String.valueOf(n).length());
        }
    }

    private static void wordsAsLongAsCanBe() {
        for (String name : NAMES) {
            right(name);
            right(name + "+" + name);
            for (int n = 1; n < name.length(); n++) fault("play " + name.substring(0, n) + REST, 5);
            fault("play " + name + "s" + REST, 5);
            fault("play a" + name + REST, 5);
            fault("play " + name + name + REST, 5);
            fault("play " + name + "1" + REST, 5 + name.length());
            fault("play 1" + name + REST, 6);
            fault("play 1 " + name + REST, 7);
            fault("play " + name.toUpperCase() + REST, 5);
            fault("play" + name + REST, 0);
            fault(name, 0);
        }
        for (String key : KEYS) {
            fault("play " + key + REST, key.equals("not") ? 8 : 5);
            if (!key.equals("not")) fault("play " + key + " 1" + REST, 5);
            for (int n = 1; n < key.length(); n++) fault("play 1 " + key.substring(0, n) + " 1" + REST, 7);
            fault("play 1 " + key + "s 1" + REST, 7);
        }
        right("1or 2");
        right("1or2and3");
        right("not1");
        right("not(1)");
        right("not odds and odds or(odds)");
        fault("play notodds" + REST, 5);
        fault("play 1 oror 2" + REST, 7);
        fault("play 1 andnot 2" + REST, 7);
        fault("play1;skill2;leave3;", -1);
        fault("play\n\n1\n;\n\nskill\n2;leave  3 ; ", -1);
    }

    private static void endsTooEarly() {
        int[] places = {0, 0, 0, 0, 4, 5, 6, 7, 7, 7, 7, 7, 12, 13, 14, 15, 15, 15, 15, 15, 20, 21, 22, -1};
        for (int n = 0; n < places.length; n++) fault(Greens.RIGHT.substring(0, n), places[n]);
        for (int n = 1; n <= 160; n++) fault(" ".repeat(n), n);
        String[] begun = {"play", "play ", "play(", "play -", "play not", "play 1+", "play 1 *\n", "play 1<", "play 1 and", "play 1 or  ",
            "play ((1)", "play 1;skill", "play 1;skill 2", "play 1;skill 2;", "play 1;skill 2;leave 1 ", "play (1;skill"};
        for (String text : begun) {
            int semicolon = text.indexOf("(1;");
            fault(text, semicolon >= 0 ? semicolon + 2 : text.length());
        }
        String full = "play" + " ".repeat(155) + "1";
        due("16: a full tape that ends too early", faultOf(full), 160);
    }

    private static void theFirstFault() {
        fault("play 1 1 #;", 7);
        fault("play # 1 1;", 5);
        fault("play 1 1 12345;", 7);
        fault("play 1 12345 #;", 7);
        fault("play 12345 1 #;", 5);
        fault("play wort 12345;", 5);
        fault("play 1;skill;leave;", 12);
        fault("play 1;leave 2;skill 3;", 7);
        fault("skill 1;play 2;leave 3;", 0);
        fault("play 1;skill 2;skill 3;", 15);
        fault("play 1;play 2;leave 3;", 7);
        fault("play ((((((1 #", 10);
        fault("play ((((( # (", 11);
        fault("play 1 < 2 = 3 #;", 11);
    }

    private static void behindTheEnd() {
        String[] more = {"1", ";", "play", "odds", "(", "not", "#", "12345", "wort", "-"};
        for (String m : more) {
            fault(Greens.RIGHT + m, 23);
            fault(Greens.RIGHT + " \n" + m, 25);
            fault(Greens.RIGHT + Greens.RIGHT, 23);
        }
        fault(Greens.RIGHT + " \n\n ", -1);
    }

    /** What stood on a tape that was read is no part of the next one. */
    private static void tapesThatWere() {
        String[][] rows = {
            {"play 123456789;", "play 1234", "9"}, {"play 1;skill 9", "play 1;skill", "12"}, {"play oddsodds", "play odds", "9"},
            {"playplay", "play", "4"}, {"play 1;skill 2;leave 3;;;;;", "play 1;skill 2;leave 3", "22"},
            {"play 1+1+1+1", "play 1+", "7"}, {"play not not not not not not 1", "play not not not not not", "24"},
            {"12345678901234567890", "play 1;skill 2;leave 3;", "-1"}, {"play 1;skill 2;leave 3; wort", "play 1;skill 2;leave 3;", "-1"},
            {"play ((((((", "play (((((", "10"}, {"##########", "", "0"}, {"play 9", " ", "1"},
        };
        for (String[] r : rows) {
            ThreeBalls x = new ThreeBalls();
            CHECKS.holds("16: a fault first: " + r[0], Checks.read(x, r[0]) <= -100);
            int place = Integer.parseInt(r[2]);
            due("16: then " + r[1], Checks.read(x, r[1]), place < 0 ? 1 : -100 - place);
        }
        ThreeBalls x = Greens.priced();
        due("16: a long text", Checks.read(x, "play 1+2+3+4;skill 5*6*7;leave 8-9;"), 1);
        due("16: a short one", Checks.read(x, "play 2;skill 3;leave 4;"), 2);
        for (int t = 1; t <= 2; t++) {
            x.force(t);
            due("18: play of text " + t, x.says(0, 0, 0, 0, 0), t == 1 ? 10 : 2);
            due("18: skill of text " + t, x.says(0, 0, 0, 1, 0), t == 1 ? 210 : 3);
            due("4: leave of text " + t, x.told(0, 8), t == 1 ? 1 : 4);
        }
    }

    private static void whereEachTokenCanStand() {
        String[] values = {"1", "odds"};
        String[] openers = {"(", "-"};
        String[] joiners = {"+", "-", "*", "<", "=", "and", "or"};
        for (String j : joiners) {
            for (String v : values) {
                right("1 " + j + " " + v);
                right("(1) " + j + " " + v);
                fault("play " + v + " " + j + " ;", 5 + v.length() + 1 + j.length() + 1);
                if (!j.equals("-")) fault("play " + j + " " + v + REST, 5);
            }
            for (String o : openers) right("1 " + j + " " + o + "1" + (o.equals("(") ? ")" : ""));
            boolean mayNot = j.equals("and") || j.equals("or");
            fault("play 1 " + j + " not 1" + REST, mayNot ? -1 : 8 + j.length());
            fault("play 1 " + j + " )" + REST, 8 + j.length());
            for (String k : joiners) {
                if (!k.equals("-")) fault("play 1 " + j + " " + k + " 1" + REST, 8 + j.length());
                boolean twice = "<=".contains(j) && "<=".contains(k);
                fault("play 1 " + j + " 2 " + k + " 3" + REST, twice ? 11 : -1);
                fault("play (1 " + j + " 2) " + k + " 3" + REST, -1);
                fault("play 1 " + j + " (2 " + k + " 3)" + REST, -1);
                fault("play not 1 " + j + " 2 " + k + " 3" + REST, twice ? 15 : -1);
            }
        }
        fault("play 1 < 2 + 3 = 4" + REST, 15);
        fault("play 1 < 2 and 3 = 4" + REST, -1);
        fault("play not not 1 < 2 and not 3" + REST, -1);
        fault("play - not 1" + REST, 7);
        fault("play -(not 1)" + REST, -1);
        fault("play ()" + REST, 6);
        fault("play (1" + REST, 7);
        fault("play (1))" + REST, 8);
        fault("play 1)" + REST, 6);
        fault("play (1)(2)" + REST, 8);
        fault("play (1) 2" + REST, 9);
        fault("play (1) odds" + REST, 9);
        fault("play (1) not 2" + REST, 9);
        fault("play 1 -" + REST, 8);
        fault("play 1 - - 2" + REST, -1);
        fault("play 1 - + 2" + REST, 9);
        fault("play 1; ;", 8);
        fault("play play 1" + REST, 5);
    }

    private static void openOnes() {
        right("(((((1)))))");
        fault("play ((((((1))))))" + REST, 10);
        right("not not not not not 1");
        fault("play not not not not not not 1" + REST, 25);
        right("-----1");
        fault("play ------1" + REST, 10);
        // A - between two terms is no - ahead of a one.
        right("1------1");
        fault("play 1-------1" + REST, 12);
        right("(((((1-1)-1)-1)-1)-1)");
        fault("play (((((-1)))))" + REST, 10);
        fault("play (((((not 1)))))" + REST, 10);
        fault("play (((((1+(1))))))" + REST, 12);
        right("(((((1)+1)+1)+1)+1)");
    }

    private static void closedOnes() {
        String five = "(((((1)))))";
        String[] joiners = {"+", "-", "*", "<", "=", " and ", " or "};
        for (String j : joiners) {
            right(five + j + five);
            right("-----1" + j + five);
            right("-----1" + j + "-----1");
            right("-(1)" + j + five);
            right(five + j + "-----1");
            right("(not 1)" + j + five);
            boolean ends = j.equals(" and ") || j.equals(" or ");
            // A not is open till the comparison that belongs to it ends.
            String open = "play not 1" + j;
            fault(open + five + REST, ends ? -1 : open.length() + 4);
            String stillOpen = "play (1" + j;
            fault(stillOpen + five + ")" + REST, stillOpen.length() + 4);
            fault(stillOpen + "((((1)))))" + REST, -1);
            right("not not not not not 1" + j + "2");
            fault("play not not not not not 1" + j + "-2" + REST, ends ? -1 : 26 + j.length());
        }
        right("not not not not not 1 and not not not not not 1");
        right("not not not not not 1 or not not not not not 1");
        fault("play not (1) + (((((1)))))" + REST, 19);
        fault("play -(((((1)))))" + REST, 10);
        right("-((((1))))");
        right("-((((1)))) + (((((1)))))");
        right("(-1) + (((((1)))))");
    }

    /** All rows of six openers: the sixth is one too many; a not can't stand behind a -. */
    private static void openOnesMixed() {
        String[] openers = {"(", "not ", "-"};
        for (int row = 0; row < 729; row++) {
            StringBuilder six = new StringBuilder("play ");
            StringBuilder five = new StringBuilder("play ");
            StringBuilder closing = new StringBuilder();
            int left = row;
            int place = -1;
            int before = -1;
            for (int k = 0; k < 6; k++) {
                int opener = left % 3;
                left /= 3;
                boolean isFault = k == 5 || opener == 1 && before == 2;
                if (isFault && place < 0) place = six.length();
                six.append(openers[opener]);
                if (k < 5) {
                    five.append(openers[opener]);
                    closing.append(opener == 0 ? ")" : "");
                }
                before = opener;
            }
            int lastOfFive = five.length();
            fault(six + "1", place);
            fault(five + "1" + closing + REST, place < lastOfFive ? place : -1);
        }
    }

    private static long playOf(String e) {
        ThreeBalls x = Greens.priced();
        due("18: " + e, Checks.read(x, "play " + e + ";skill 1;leave 1;"), 1);
        x.force(1);
        return x.says(0, 0, 1010, 0, 309);
    }

    private static void wrapping() {
        due("18: the greatest", playOf(GREATEST), Integer.MAX_VALUE);
        due("18: one more wraps", playOf(LEAST), Integer.MIN_VALUE);
        due("18: one less again", playOf(LEAST + "-1"), Integer.MAX_VALUE);
        due("18: the least has no other sign", playOf("-(" + LEAST + ")"), Integer.MIN_VALUE);
        due("18: twice the greatest", playOf("(" + GREATEST + ")*2"), -2);
        due("18: twice the least", playOf("(" + LEAST + ")*2"), 0);
        due("18: the greatest by itself", playOf("(" + GREATEST + ")*(" + GREATEST + ")"), 1);
        due("18: the least is less", playOf(LEAST + "<" + GREATEST), 1);
        due("18: the greatest is not", playOf(GREATEST + "<" + LEAST), 0);
        due("18: the least is less than 0", playOf(LEAST + "<0"), 1);
        due("18: four nines by three", playOf("9999*9999*9999"), 9999 * 9999 * 9999);
        due("18: the least is true", playOf("not(" + LEAST + ")"), 0);
    }

    private static void bitsOfTruth() {
        String[] values = {"0", "1", "2", "-1", "9999", LEAST};
        for (int i = 0; i < values.length; i++) {
            String v = "(" + values[i] + ")";
            due("18: not " + v, playOf("not " + v), i == 0 ? 1 : 0);
            due("18: not not " + v, playOf("not not " + v), i == 0 ? 0 : 1);
            for (int j = 0; j < values.length; j++) {
                String w = "(" + values[j] + ")";
                due("18: " + v + " and " + w, playOf(v + " and " + w), i > 0 && j > 0 ? 1 : 0);
                due("18: " + v + " or " + w, playOf(v + " or " + w), i > 0 || j > 0 ? 1 : 0);
                due("18: " + v + "=" + w, playOf(v + "=" + w), i == j ? 1 : 0);
            }
        }
        due("18: like ones are not less", playOf("7<7"), 0);
        due("18: one less", playOf("6<7"), 1);
        due("18: one more", playOf("8<7"), 0);
        due("18: a lone value stays as it is", playOf("7"), 7);
        due("18: below 0 it stays as it is", playOf("-7"), -7);
        due("18: brackets leave it", playOf("((7))"), 7);
    }

    private static void ranks() {
        Object[][] rows = {
            {"2+3*4", 14}, {"2*3+4", 10}, {"9-5-3", 1}, {"9-5+3", 7}, {"9-(5-3)", 7}, {"2-3*4", -10}, {"-2-3", -5}, {"-2*-3", 6}, {"2*-3+1", -5},
            {"--2", 2}, {"1+2<4", 1}, {"1<2+0*3", 1}, {"3<1+2", 0}, {"3=1+2", 1}, {"(1<2)=1", 1}, {"not 2=2", 0}, {"not 0=0", 0},
            {"(not 0)=0", 0}, {"not 1+1", 0}, {"not 1-1", 1}, {"not 0 and 0", 0}, {"not(0 and 0)", 1}, {"not 0 or 1", 1}, {"not(0 or 1)", 0},
            {"1 or 1 and 0", 1}, {"(1 or 1)and 0", 0}, {"0 and 0 or 1", 1}, {"0 and(0 or 1)", 0}, {"1 and 2<1 or 3", 1}, {"2 and 3", 1},
            {"0 or 0 or 5", 1}, {"5 and 5 and 0", 0}, {"not not 5", 1}, {"not not not 5", 0}, {"1=1 and 2", 1}, {"-1<0 and 0<1", 1},
        };
        for (Object[] r : rows) due("18: " + r[0], playOf((String) r[0]), (Integer) r[1]);
    }

    private static void hoursOfALook() {
        Object[][] rows = {
            {"0", 1}, {"1", 1}, {"2", 2}, {"98", 98}, {"99", 99}, {"100", 99}, {"9999", 99}, {"-1", 1}, {"-99", 1}, {GREATEST, 99}, {LEAST, 1},
            {"3+odds", 3}, {"3+won", 3}, {"3+tries", 3}, {"price", 5}, {"bear", 30}, {"seems", 40}, {"1<2", 1}, {"not 0", 1}, {"not 1", 1},
        };
        for (Object[] r : rows) {
            ThreeBalls x = Greens.priced();
            due("4: hours by " + r[0], Checks.read(x, "play 7;skill 8;leave " + r[0] + ";"), 1);
            x.shown(0, 0, 1010, 1);
            x.force(1);
            due("4: hours by " + r[0], x.told(0, 8), (Integer) r[1]);
            due("23: hours by " + r[0], x.year((Integer) r[1], 0), 0);
            x.stall(1, 1010, 1, 5);
            x.set(1, 1, 30);
            x.set(1, 2, 40);
            due("23: a look takes its hours, " + r[0], x.year((Integer) r[1], 0), 2);
            due("23: one hour fewer, " + r[0], x.year((Integer) r[1] - 1, 0), 0);
            due("23: hours taken, " + r[0], x.year(199, 2), (Integer) r[1]);
        }
    }

    private static void valuesAtTheirBounds() {
        ThreeBalls x = new ThreeBalls();
        x.stall(0, 1010, 0, 99);
        x.set(0, 1, 999);
        x.set(0, 2, 999);
        x.hand(0, 0, 0);
        x.hand(0, 0, 1);
        x.hand(0, 0, 5);
        String[] names = {"odds", "price", "bear", "seems", "won", "tries"};
        long[][] want = {{1000, 99, 999, 999, 99, 99}, {111, 99, 999, 999, 99, 99}, {8, 99, 999, 999, 99, 99}};
        for (int n = 0; n < 5; n++) {
            Checks.read(x, "play " + names[n] + ";skill " + names[n] + ";leave 1;");
            x.force(n + 1);
            for (int h = 0; h < 3; h++) {
                due("18: " + names[n] + " of hand " + h, x.says(0, h, 1010, 0, 9999), want[h][n]);
                due("18: skill, " + names[n] + " of hand " + h, x.says(0, h, 1010, 1, 9999), n == 4 ? 0 : want[h][n]);
            }
            due("18: no odds, " + names[n], x.says(0, 0, 0, 0, 0), n == 0 || n == 4 ? 0 : want[0][n]);
        }
        ThreeBalls y = Greens.priced();
        Checks.read(y, "play 1000*won+tries;skill 1+won+tries;leave 1;");
        y.force(1);
        int[] had = {0, 1, 99, 100, 199, 309, 9900, 9999};
        for (int v : had) {
            due("18: won, tries of " + v, y.says(0, 0, 0, 0, v), v / 100 * 1000 + v % 100);
            due("18: skill knows neither, " + v, y.says(0, 0, 0, 1, v), 1);
        }
        y.shown(0, 0, 1010, 1);
        due("18: tries on the green don't count", y.says(0, 0, 0, 0, 0), 0);
    }

    /** play price < odds + seems ; skill 99 < odds ; leave 2 ; */
    private static void theFirstRule() {
        ThreeBalls x = new ThreeBalls();
        x.stall(0, 1010, 2, 99);
        x.hand(0, 0, 5);
        x.hand(0, 0, 3);
        x.hand(0, 0, 0);
        // At 15, 14 three columns and four rows are reached: 12 of 121 is 99 thousandths, cut.
        due("7: above", x.odds(0, 0, 1514, 0), 12);
        due("7: below", x.odds(0, 0, 1514, 1), 121);
        due("18: 99 is not above 99", x.says(0, 0, 1514, 1, 0), 0);
        due("18: 5 of 49 is 102", x.says(0, 1, 1015, 1, 0), 1);
        due("18: a price of 99 is not below 99", x.says(0, 0, 1514, 0, 0), 0);
        due("19: so none is had", x.player(0, 1514, 7, 9999, 0), 0);
        x.set(0, 2, 1);
        due("18: but below 100", x.says(0, 0, 1514, 0, 0), 1);
        due("19: so all are had", x.player(0, 1514, 7, 9999, 0), 40);
        x.set(0, 2, 0);
        x.set(0, 0, 98);
        due("18: 98 is below 99", x.says(0, 0, 1514, 0, 0), 1);
        x.set(0, 2, 98);
        due("18: as dear as it seems, no odds", x.says(0, 2, 0, 0, 0), 0);
        x.set(0, 2, 99);
        due("18: one less dear than it seems", x.says(0, 2, 0, 0, 0), 1);
        due("18: won and tries don't matter", x.says(0, 2, 0, 0, 9999), 1);
        x.set(0, 1, 999);
        x.set(0, 2, 98);
        due("18: nor does the bear's cost", x.says(0, 2, 0, 0, 0), 0);
        due("4: two hours", x.told(0, 8), 2);
    }
}
