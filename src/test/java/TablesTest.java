/** Empty tables, full ones, the last that has room and the first that has none, and 512 calls. */
public final class TablesTest {
    private static final Checks CHECKS = new Checks("TablesTest");
    private static final int NONE = ThreeBalls.NONE, BAD = ThreeBalls.BAD, FULL = ThreeBalls.FULL;
    private static final long NO = ThreeBalls.NO;

    public static void main(String[] args) {
        emptyGreen();
        stallsWithoutHands();
        eightStalls();
        sixHands();
        sixtyTries();
        sixtyTriesByASheet();
        roomAfterBack();
        tapeOf160();
        sixTexts();
        sixTests();
        sheetsOf40();
        images();
        the512thCall();
        CHECKS.end();
    }

    private static void due(String what, long got, long want) {
        CHECKS.due(what, got, want);
    }

    private static void emptyGreen() {
        ThreeBalls x = new ThreeBalls();
        int[] counts = {0, 0, 0, 0, 1, 0, 0, 0};
        for (int what = 0; what < 8; what++) due("1: count " + what, x.count(what), counts[what]);
        for (int what = 0; what < 9; what++) due("4: none such", x.told(0, what), -5);
        due("7: none such", x.odds(0, 0, 0, 0), NO);
        due("8: none such", x.best(0, 0, 0), NO);
        due("11: none such", x.tryTold(0, 0), NONE);
        due("12: none such", x.setAll(0, 1, 0), NO);
        due("14: no hand", x.leaves(0, 0), NO);
        due("14: no hand", x.leaves(0, 1), NO);
        due("19: no stall, no hand", x.player(0, 0, 0, 0, 0), NO);
        due("20: no stall, no hand", x.most(0, 0, 0, 0, 0), BAD);
        due("22: nothing to part", x.find(0, 0), 0);
        due("22: in no hours", x.find(0, 1), 0);
        for (int what = 0; what < 3; what++) due("23: no stall to look at", x.year(199, what), 0);
        due("25: no hand", x.walk(0, 0, 0), BAD);
        due("17: text 0 is the rule", x.force(0), 0);
        due("16: the empty tape ends too early at 0", x.text(), -100);
        for (int sheet = 0; sheet < 4; sheet++) due("29: missing at first", x.cell(sheet, 0, 0), -11);
        due("26: an image of nothing", x.image(), 0);
        due("27: nothing laid back", x.back(), 0);
        x.hand(0, 0, 0);
        due("14: 0 by 1 without stalls", x.leaves(0, 0), 0);
        due("14: 0 by 1 without stalls", x.leaves(0, 1), 1);
        due("25: no stall to walk to", x.walk(0, 200, 0), 1000000);
        due("25: no stall to walk to", x.walk(0, 200, 1), NONE);
        due("24: a stall can be made on an empty green", x.make(0, 0, 0, 0, 0), 1);
        due("7: a hand, no stall", x.odds(0, 0, 0, 0), NO);
    }

    private static void stallsWithoutHands() {
        ThreeBalls x = new ThreeBalls();
        x.stall(1, 0, 0, 1);
        due("7: a stall, no hand", x.odds(0, 0, 0, 0), NO);
        due("10: a stall, no hand", x.shown(0, 0, 0, 0), BAD);
        due("12: a stall, no tries", x.setAll(0, 8, 0), 1);
        due("12: a stall, no tries", x.setAll(0, 1, 1), 1);
        due("5: a stall, no hand", x.wins(0, 0, 0), 1);
        due("22: one stall, no tests", x.find(1, 0), 0);
        due("23: one stall", x.year(2, 0), 1);
        due("24: no hand", x.make(0, 0, 0, 0, 0), BAD);
    }

    private static void eightStalls() {
        ThreeBalls x = new ThreeBalls();
        for (int i = 0; i < 8; i++) {
            due("2: numbered from 0", x.stall(i % 6, 100 * i + i, i, i + 1), i);
            due("2: so many", x.count(0), i + 1);
        }
        for (int k = 0; k < 3; k++) due("2: the ninth", x.stall(0, 0, 0, 1), FULL);
        due("2: eight still", x.count(0), 8);
        for (int i = 0; i < 8; i++) {
            int[] want = {i % 6, 100 * i + i, i, i + 1, 0, 0, 0};
            for (int what = 0; what < 7; what++) due("2: stall " + i + " what " + what, x.told(i, what), want[what]);
        }
        due("2: the first is still the first", x.taken(0, 0), 1);
        due("2: the last", x.taken(7, 1), 8);
        due("3: the last", x.set(7, 0, 99), 8);
        due("3: behind the last", x.set(8, 0, 99), -5);
    }

    private static void sixHands() {
        ThreeBalls x = new ThreeBalls();
        x.stall(0, 1010, 0, 1);
        for (int i = 0; i < 6; i++) {
            due("6: numbered from 0", x.hand(i - 2, 2 - i, 0), i);
            due("6: so many", x.count(1), i + 1);
        }
        for (int k = 0; k < 3; k++) due("6: the seventh", x.hand(0, 0, 0), FULL);
        due("6: six still", x.count(1), 6);
        for (int i = 0; i < 6; i++) due("6: hand " + i, x.best(0, i, 0), 100 * (12 - i) + 8 + i);
    }

    private static void sixtyTries() {
        ThreeBalls x = Greens.single();
        x.hand(0, 0, 0);
        for (int t = 1; t < 60; t++) {
            due("10: numbered from 0", x.shown(0, t % 2, t % 20, t / 2 % 2), t);
        }
        due("10: the one behind 60", x.shown(0, 0, 0, 0), FULL);
        due("9: the one behind 60", x.tried(0, 0, 0, 0), FULL);
        due("10: sixty still", x.count(2), 60);
        due("10: won", x.count(7), 31);
        due("11: the first stays", x.tryTold(0, 2), 1010);
        for (int t = 1; t < 60; t++) {
            due("11: hand of try " + t, x.tryTold(t, 1), t % 2);
            due("11: aim of try " + t, x.tryTold(t, 2), t % 20);
            due("11: won of try " + t, x.tryTold(t, 3), t / 2 % 2);
        }
        due("11: behind the last", x.tryTold(60, 2), NONE);
        ThreeBalls y = Greens.single();
        for (int t = 1; t < 59; t++) y.tried(0, 0, 1010, t);
        due("9: the last that has room", y.tried(0, 0, 0, 5), 0);
        due("9: the one behind it", y.tried(0, 0, 0, 5), FULL);
        due("9: sixty", y.count(2), 60);
    }

    private static void sixtyTriesByASheet() {
        ThreeBalls x = Greens.single();
        x.sheet(0, 2, 40);
        for (int i = 0; i < 10; i++) x.cell(0, 4 * i + 2, i);
        for (int k = 0; k < 5; k++) due("32: ten come", x.tries(0, 2, 0, 10), 10);
        due("32: nine have room, the tenth is left out", x.tries(0, 2, 0, 10), 9);
        due("32: none has room", x.tries(0, 2, 0, 10), 0);
        due("32: full, but the place is outside", x.tries(0, 2, 4, 10), -12);
        due("32: sixty", x.count(2), 60);
        due("32: the last that came", x.tryTold(59, 2), 8);
    }

    private static void roomAfterBack() {
        ThreeBalls x = Greens.single();
        due("26: one try", x.image(), 1);
        for (int t = 1; t < 60; t++) x.shown(0, 0, 5, 0);
        due("10: full", x.shown(0, 0, 6, 1), FULL);
        due("27: one try again", x.back(), 1);
        due("27: the others are gone", x.tryTold(1, 0), NONE);
        due("28: won, of those that are left", x.count(7), 1);
        due("12: of those that are left", x.setAll(0, 8, 0), 9);
        due("10: room again", x.shown(0, 0, 6, 1), 1);
        due("11: the new one", x.tryTold(1, 2), 6);
        due("28: won", x.count(7), 2);
        due("26: a full one", imageOfSixty(x), 60);
        due("27: all sixty stay", x.back(), 60);
        due("10: full after it", x.shown(0, 0, 6, 1), FULL);
    }

    private static int imageOfSixty(ThreeBalls x) {
        for (int t = 2; t < 60; t++) x.shown(0, 0, 5, 0);
        return x.image();
    }

    private static void tapeOf160() {
        for (int n = 1; n <= 8; n++) {
            ThreeBalls x = new ThreeBalls();
            int size = 0;
            while (size + n <= 160) {
                size += n;
                due("15: by " + n, x.feed(n, 0), size);
            }
            due("15: by " + n + ", no more", x.feed(n, 0), FULL);
            due("15: by " + n + ", it stays", x.count(5), size);
            if (size < 160) due("15: by " + n + ", filled up", x.feed(160 - size, 0), 160);
            due("15: by " + n + ", not one more", x.feed(1, 0), FULL);
            due("15: by " + n + ", full", x.count(5), 160);
            due("16: by " + n + ", byte 0 begins no token", x.text(), -100);
            due("16: by " + n + ", empty then", x.count(5), 0);
            due("15: by " + n + ", room again", x.feed(n, 0), n);
        }
        ThreeBalls x = new ThreeBalls();
        Checks.feed(x, " ".repeat(152));
        due("15: eight fill it up", x.feed(8, 0x2020202020202020L), 160);
        due("16: blanks alone end too early", x.text(), -260);
        Checks.feed(x, " ".repeat(153));
        due("15: eight are one too many", x.feed(8, 0x2020202020202020L), FULL);
        due("15: none of them came", x.count(5), 153);
        due("16: none of them came", x.text(), -253);
        Checks.feed(x, " ".repeat(159) + "#");
        due("16: a fault at the last byte", x.text(), -259);
        Checks.feed(x, " ".repeat(160 - Greens.RIGHT.length()) + Greens.RIGHT);
        due("16: a text at the end of a full tape", x.text(), 1);
        lowestBytes();
    }

    /** The n lowest bytes come, the lowest first, whatever stands above them. */
    private static void lowestBytes() {
        for (int n = 1; n <= 8; n++) {
            ThreeBalls x = new ThreeBalls();
            Checks.feed(x, "play ");
            long bytes = 0;
            for (int k = 7; k >= 0; k--) bytes = bytes << 8 | (k < n ? (k == 0 ? ' ' : '0' + k) : '#');
            x.feed(n, bytes);
            Checks.feed(x, ";skill 1;leave 1;");
            boolean isRight = n >= 2 && n <= 5;
            due("15: " + n + " bytes, the lowest first", x.text(), isRight ? 1 : -106);
            if (isRight) {
                x.stall(0, 0, 0, 1);
                x.hand(0, 0, 0);
                x.force(1);
                int[] digits = {0, 0, 1, 12, 123, 1234};
                due("15: " + n + " bytes in their order", x.says(0, 0, 0, 0, 0), digits[n]);
            }
        }
        ThreeBalls x = new ThreeBalls();
        x.feed(1, -1L << 8 | 'p');
        x.feed(3, -1L << 24 | 0x79616cL);
        x.feed(8, 0x3b3b3b3b3b3b3b3bL);
        due("15: bits above don't count", x.text(), -104);
        ThreeBalls y = new ThreeBalls();
        y.feed(8, Long.MIN_VALUE);
        due("15: byte 128 begins no token", y.text(), -100);
        Checks.feed(y, "       ");
        y.feed(8, 0x8020202020202020L);
        due("15: the highest byte comes last", y.text(), -114);
        y.feed(8, 0xff20202020202020L);
        due("15: the highest byte, 255", y.text(), -107);
    }

    private static void sixTexts() {
        ThreeBalls x = new ThreeBalls();
        for (int i = 1; i < 6; i++) {
            due("16: a fault takes no room", Checks.read(x, "play"), -104);
            due("16: numbered behind text 0", Checks.read(x, "play 1;skill 1;leave " + 10 * i + ";"), i);
            due("28: texts", x.count(4), i + 1);
        }
        due("16: full, ahead of an empty tape's fault", x.text(), FULL);
        Checks.feed(x, "wrong");
        due("16: full, ahead of a fault", x.text(), FULL);
        due("16: the tape stays", x.count(5), 5);
        due("16: full, once more", x.text(), FULL);
        due("28: six texts", x.count(4), 6);
        due("15: the tape goes on", x.feed(2, 0), 7);
        x.stall(0, 0, 0, 1);
        for (int t = 5; t >= 0; t--) {
            x.force(t);
            due("17: text " + t, x.told(0, 8), t == 0 ? 2 : 10 * t);
        }
        due("17: behind the last", x.force(6), BAD);
        due("17: the rule stays", x.count(6), 0);
    }

    private static void sixTests() {
        ThreeBalls x = new ThreeBalls();
        x.stall(0, 0, 0, 1);
        x.stall(1, 0, 0, 1);
        due("22: no tests", x.find(3, 0), NONE);
        due("22: no tests, hours", x.find(3, 1), NONE);
        for (int t = 0; t < 5; t++) {
            due("21: numbered from 0", x.test(20, 0), t);
            due("22: like answers part none", x.find(3, 0), NONE);
        }
        due("21: the last that has room", x.test(20, 10000), 5);
        due("22: the last parts them", x.find(3, 0), 32);
        due("21: the one behind it", x.test(1, 10000), FULL);
        due("21: six still", x.count(3), 6);
        due("22: it did not come", x.find(3, 0), 32);
        due("22: twenty hours", x.find(3, 1), 20);
        allSixTests();
    }

    /** Six kinds of which each test parts one from all others: five tests are needed. */
    private static void allSixTests() {
        ThreeBalls x = new ThreeBalls();
        for (int kind = 0; kind < 6; kind++) x.stall(kind, 0, 0, 1);
        int place = 100000;
        for (int t = 0; t < 6; t++) {
            due("22: not yet", x.find(63, 0), t < 5 ? NONE : 31);
            x.test(20, place);
            place /= 10;
        }
        due("22: five of six, the least of like ones", x.find(63, 0), 31);
        due("22: hours of five", x.find(63, 1), 100);
        x.stall(0, 0, 0, 1);
        x.stall(5, 0, 0, 1);
        due("22: all eight stalls", x.find(255, 0), 31);
        due("22: two of like kind", x.find(0b1000001, 0), 0);
        due("22: two of unlike kinds", x.find(0b10000001, 0), 1);
    }

    private static void sheetsOf40() {
        ThreeBalls x = Greens.single();
        for (int sort = 0; sort < 3; sort++) {
            for (int n = 0; n <= 40; n++) {
                due("29: n " + n, x.sheet(3, sort, n), 1);
                due("30: the first behind " + n, x.cell(3, n, 1), -12);
                due("30: the last of " + n, x.cell(3, n - 1, 1), n == 0 ? -12 : 1);
            }
        }
        ThreeBalls y = Greens.single();
        y.sheet(0, 2, 40);
        y.cell(0, 39, 1);
        y.cell(0, 38, 7);
        due("32: the last four of 40", y.tries(0, 2, 36, 1), 1);
        due("32: the last four of 40", y.tryTold(1, 2), 7);
        due("29: n above 40 leaves it", y.sheet(0, 2, 41), BAD);
        due("29: n below 0 leaves it", y.sheet(0, 2, -1), -14);
        due("32: the last four still", y.tries(0, 2, 36, 1), 1);
        due("29: made anew", y.sheet(0, 2, 40), 1);
        y.tries(0, 2, 36, 1);
        due("29: all 0", y.tryTold(3, 2) + y.tryTold(3, 3), 0);
        due("29: of none", y.sheet(1, 2, 0), 1);
        due("31: none of none", y.copy(1, 0, 1, 0, 0), 0);
        due("31: one of none", y.copy(1, 0, 1, 0, 1), -12);
        due("31: none to the end of 40", y.copy(1, 0, 0, 40, 0), 0);
        due("31: none behind the end of 40", y.copy(1, 0, 0, 41, 0), -12);
        due("32: none of none", y.tries(1, 2, 0, 0), 0);
        due("32: one of none", y.tries(1, 2, 0, 1), -12);
        due("29: missing", y.sheet(1, -1, 5), 1);
        due("31: missing is not of none", y.copy(1, 0, 1, 0, 0), -11);
        due("32: missing is not of none", y.tries(1, 2, 0, 0), -11);
        due("31: forty", y.copy(0, 0, 0, 0, 40), 40);
        due("31: forty and one", y.copy(0, 0, 0, 0, 41), -12);
    }

    private static void images() {
        ThreeBalls x = Greens.single();
        due("27: none yet", x.back(), ThreeBalls.STATE);
        due("27: none yet, once more", x.back(), ThreeBalls.STATE);
        due("26: kept", x.image(), 1);
        due("27: nothing came since", x.back(), 1);
        x.set(0, 0, 1);
        x.set(0, 1, 999);
        x.set(0, 2, 999);
        x.set(0, 3, 1);
        for (int i = 1; i < 8; i++) {
            x.stall(5, 0, 1, 50 + i);
            x.set(i, 1, i);
            x.set(i, 2, 10 * i);
            x.set(i, 3, i % 2);
        }
        due("27: laid back", x.back(), 1);
        int[] first = {5, 0, 0, 0};
        for (int what = 3; what < 7; what++) due("27: stall 0 what " + what, x.told(0, what), first[what - 3]);
        for (int i = 1; i < 8; i++) {
            int[] since = {50 + i, i, 10 * i, i % 2};
            for (int what = 3; what < 7; what++) due("27: stall " + i + " came since, what " + what, x.told(i, what), since[what - 3]);
        }
        due("26: of all eight", x.image(), 1);
        for (int i = 0; i < 8; i++) {
            for (int what = 0; what < 4; what++) x.set(i, what, 1);
        }
        due("27: of all eight", x.back(), 1);
        for (int i = 1; i < 8; i++) {
            int[] kept = {50 + i, i, 10 * i, i % 2};
            for (int what = 3; what < 7; what++) due("27: stall " + i + " was kept, what " + what, x.told(i, what), kept[what - 3]);
        }
    }

    private static void the512thCall() {
        ThreeBalls x = new ThreeBalls();
        due("1: first call", x.stall(5, 1010, 2, 4), 0);
        for (int i = 2; i <= 510; i++) due("1: call " + i, x.set(0, 1, i), i == 2 ? 0 : i - 1);
        due("1: call 511", x.hand(0, 0, 2), 0);
        due("1: call 512", x.odds(0, 0, 1010, 0), 1);
        ThreeBalls y = new ThreeBalls();
        for (int i = 1; i <= 511; i++) due("1: sheet by call " + i, y.sheet(i % 4, i % 3, 40), 1);
        due("1: call 512 of sheets", y.cell(3, 39, 1), 1);
    }
}
