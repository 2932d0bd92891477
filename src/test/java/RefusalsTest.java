import java.util.ArrayList;
import java.util.List;
import java.util.function.Consumer;
import java.util.function.Supplier;

/**
 * Where several refusals could be answered, the one that the document says stands first; and
 * what is refused changes nothing: two greens are made alike, one is refused something, and all
 * that they answer afterwards is compared.
 */
public final class RefusalsTest {
    private static final Checks CHECKS = new Checks("RefusalsTest");
    private static final int BAD = ThreeBalls.BAD, FULL = ThreeBalls.FULL, NONE = ThreeBalls.NONE;
    private static final long NO = ThreeBalls.NO;
    private static final int FAR = Integer.MIN_VALUE;

    private interface Call {
        long of(ThreeBalls x);
    }

    public static void main(String[] args) {
        onEmpty();
        onSome();
        onFull();
        lookingChangesNothing();
        faultsOfATape();
        CHECKS.end();
    }

    private static void refused(Supplier<ThreeBalls> green, String what, Call call, long want) {
        for (int probe = 0; probe < 4; probe++) {
            ThreeBalls one = green.get();
            ThreeBalls other = green.get();
            CHECKS.due(what, call.of(one), want);
            List<Long> got = probed(one, probe);
            List<Long> due = probed(other, probe);
            for (int i = 0; i < due.size(); i++) {
                CHECKS.due(what + ": then answer " + i + " of probe " + probe, got.get(i), due.get(i));
            }
        }
    }

    /** A probe takes so many calls that all of them together would be too many for one object. */
    private static List<Long> probed(ThreeBalls x, int probe) {
        List<Long> all = new ArrayList<>();
        switch (probe) {
            case 0: looks(x, all); break;
            case 1: tries(x, all); break;
            case 2: sheets(x, all); break;
            default: wordsAndImage(x, all); break;
        }
        return all;
    }

    private static void looks(ThreeBalls x, List<Long> all) {
        for (int what = 0; what < 8; what++) all.add((long) x.count(what));
        for (int s = 0; s < 8; s++) {
            for (int what = 0; what < 9; what++) all.add((long) x.told(s, what));
            for (int part = 0; part < 2; part++) all.add(x.setAll(s, 8, part));
        }
        for (int h = 0; h < 6; h++) {
            for (int what = 0; what < 3; what++) all.add(x.best(1, h, what));
            all.add(x.leaves(h, 0));
        }
        int stalls = (1 << x.count(0)) - 1;
        for (int what = 0; what < 2; what++) {
            all.add((long) x.find(stalls, what));
            all.add((long) x.find(stalls & 3, what));
        }
        for (int what = 0; what < 3; what++) all.add((long) x.year(20, what));
    }

    private static void tries(ThreeBalls x, List<Long> all) {
        for (int t = 0; t < 60; t++) {
            for (int what = 0; what < 5; what++) all.add((long) x.tryTold(t, what));
        }
    }

    /** Each item comes as the aim of a try, by a sheet beside it, so that it can be told. */
    private static void sheets(ThreeBalls x, List<Long> all) {
        all.add((long) x.back());
        for (int sheet = 0; sheet < 3; sheet++) {
            x.sheet(3, sheet, 4);
            for (int i = 0; i < 13; i++) {
                all.add((long) x.copy(sheet, i, 3, 2, 1));
                all.add((long) x.tries(3, sheet, 0, 1));
                all.add((long) x.tryTold(x.count(2) - 1, 2));
            }
        }
    }

    private static void wordsAndImage(ThreeBalls x, List<Long> all) {
        all.add((long) x.cell(3, 0, 0));
        for (int t = x.count(4) - 1; t >= 0; t--) {
            all.add((long) x.force(t));
            all.add((long) x.told(0, 8));
            for (int key = 0; key < 2; key++) all.add(x.says(0, 0, 1010, key, 309));
        }
        Checks.feed(x, " 7;leave 9;");
        all.add((long) x.count(5));
        all.add((long) x.text());
        all.add((long) x.force(x.count(4) - 1));
        for (int key = 0; key < 2; key++) all.add(x.says(0, 0, 1010, key, 309));
        all.add((long) x.told(0, 8));
        all.add((long) x.back());
        for (int what = 0; what < 8; what++) all.add((long) x.count(what));
        for (int s = 0; s < 8; s++) {
            for (int what = 3; what < 9; what++) all.add((long) x.told(s, what));
        }
        // What is shown next takes the first number that is free.
        all.add((long) x.shown(0, 0, 17, 1));
        all.add((long) x.tryTold(1, 2));
        all.add((long) x.stall(0, 0, 0, 1));
        all.add((long) x.hand(0, 0, 0));
        all.add((long) x.test(1, 0));
    }

    private static void onEmpty() {
        Supplier<ThreeBalls> green = ThreeBalls::new;
        refused(green, "27: back, no image", x -> x.back(), ThreeBalls.STATE);
        refused(green, "9: tried, no stall", x -> x.tried(0, 0, 0, 0), BAD);
        refused(green, "10: shown, no stall", x -> x.shown(0, 0, 0, 0), BAD);
        refused(green, "22: find, no stall", x -> x.find(1, 0), BAD);
        refused(green, "24: make, no hand", x -> x.make(0, 0, 0, 0, 0), BAD);
        refused(green, "30: cell, missing", x -> x.cell(0, 0, 0), -11);
        refused(green, "31: copy, missing", x -> x.copy(0, 0, 0, 0, 0), -11);
        refused(green, "32: tries, missing", x -> x.tries(0, 0, 0, 0), -11);
        refused(green, "33: taken, none", x -> x.taken(0, 0), -11);
    }

    private static void onSome() {
        Supplier<ThreeBalls> green = Greens::some;
        ofStalls(green);
        ofTries(green);
        ofWords(green);
        ofInspectors(green);
        ofSheets(green);
        ofRows(green);
    }

    private static void ofStalls(Supplier<ThreeBalls> green) {
        int[][] stalls = {{-1, 0, 0, 1}, {6, 0, 0, 1}, {0, -1, 0, 1}, {0, 20, 0, 1}, {0, 2000, 0, 1}, {0, 0, -1, 1}, {0, 0, 10, 1},
            {0, 0, 0, 0}, {0, 0, 0, 100}};
        for (int[] a : stalls) refused(green, "2: stall", x -> x.stall(a[0], a[1], a[2], a[3]), BAD);
        int[][] sets = {{-1, 0, 9}, {2, 0, 9}, {0, -1, 1}, {0, 4, 1}, {0, 0, 0}, {0, 0, 100}, {0, 1, -1}, {0, 1, 1000}, {0, 2, -1},
            {0, 2, 1000}, {0, 3, -1}, {0, 3, 2}};
        for (int[] a : sets) refused(green, "3: set", x -> x.set(a[0], a[1], a[2]), -5);
        int[][] hands = {{-6, 0, 0}, {6, 0, 0}, {0, -6, 0}, {0, 6, 0}, {0, 0, -1}, {0, 0, 6}};
        for (int[] a : hands) refused(green, "6: hand", x -> x.hand(a[0], a[1], a[2]), BAD);
        refused(green, "4: told", x -> x.told(2, 0), -5);
        refused(green, "5: wins", x -> x.wins(0, 41, 0), BAD);
        refused(green, "7: odds", x -> x.odds(0, 0, 20, 0), NO);
        refused(green, "8: best", x -> x.best(0, 2, 0), NO);
    }

    private static void ofTries(Supplier<ThreeBalls> green) {
        int[][] tried = {{2, 0, 0, 0}, {0, 2, 0, 0}, {0, 0, 20, 0}, {0, 0, 0, -1}, {0, 0, 0, 100000}, {-1, -1, -1, -1}};
        for (int[] a : tried) refused(green, "9: tried", x -> x.tried(a[0], a[1], a[2], a[3]), BAD);
        int[][] shown = {{2, 0, 0, 0}, {0, 2, 0, 0}, {0, 0, 20, 0}, {0, 0, 0, -1}, {0, 0, 0, 2}, {-1, -1, -1, -1}};
        for (int[] a : shown) refused(green, "10: shown", x -> x.shown(a[0], a[1], a[2], a[3]), BAD);
        refused(green, "11: tryTold", x -> x.tryTold(3, 0), NONE);
        refused(green, "12: setAll", x -> x.setAll(0, 9, 0), NO);
    }

    private static void ofWords(Supplier<ThreeBalls> green) {
        refused(green, "13: worth", x -> x.worth(0, 0, 0, 2, 0), NO);
        refused(green, "14: leaves", x -> x.leaves(2, 0), NO);
        refused(green, "15: feed of 0", x -> x.feed(0, -1L), BAD);
        refused(green, "15: feed of 9", x -> x.feed(9, -1L), BAD);
        refused(green, "17: force", x -> x.force(2), BAD);
        refused(green, "17: force", x -> x.force(-1), BAD);
        refused(green, "18: says", x -> x.says(0, 0, 0, 2, 0), NO);
        refused(green, "19: player", x -> x.player(2, 0, 0, 0, 0), NO);
        refused(green, "20: most", x -> x.most(0, 0, 0, 0, 7), BAD);
    }

    private static void ofInspectors(Supplier<ThreeBalls> green) {
        refused(green, "21: test, hours", x -> x.test(0, 0), BAD);
        refused(green, "21: test, hours", x -> x.test(21, 0), BAD);
        refused(green, "21: test, answers", x -> x.test(1, 4), BAD);
        refused(green, "21: test, answers", x -> x.test(1, 1000000), BAD);
        refused(green, "22: find", x -> x.find(4, 0), BAD);
        refused(green, "22: find, wrong ahead of none", x -> x.find(3, 2), BAD);
        refused(green, "23: year", x -> x.year(200, 0), BAD);
        refused(green, "24: make", x -> x.make(0, 2, 0, 0, 0), BAD);
        refused(green, "24: make, none", x -> x.make(0, 0, 999, 1000, 99), NONE);
        refused(green, "24: make, wrong ahead of none", x -> x.make(0, 0, 1000, 1000, 99), BAD);
        refused(green, "25: walk", x -> x.walk(0, 201, 0), BAD);
        refused(green, "25: walk, wrong ahead of none", x -> x.walk(0, 0, 2), BAD);
        refused(green, "28: count", x -> x.count(8), BAD);
    }

    private static void ofSheets(Supplier<ThreeBalls> green) {
        refused(green, "29: no such sheet", x -> x.sheet(4, 0, 1), BAD);
        refused(green, "29: no such sheet, ahead of -14", x -> x.sheet(-1, 0, -1), BAD);
        refused(green, "29: no such sheet, missing", x -> x.sheet(4, -1, 1), BAD);
        refused(green, "29: no such sort", x -> x.sheet(0, 3, 1), BAD);
        refused(green, "29: no such sort, ahead of -14", x -> x.sheet(0, 3, -1), BAD);
        refused(green, "29: no such sort below, ahead of -14", x -> x.sheet(0, -2, -1), BAD);
        refused(green, "29: n above 40", x -> x.sheet(0, 0, 41), BAD);
        refused(green, "29: n below 0", x -> x.sheet(0, 0, -1), -14);
        refused(green, "29: n below 0", x -> x.sheet(2, 2, FAR), -14);
        refused(green, "30: no such sheet", x -> x.cell(4, 0, 5), BAD);
        refused(green, "30: no such sheet, ahead of the place", x -> x.cell(-1, -1, 5), BAD);
        refused(green, "30: missing", x -> x.cell(3, 0, 5), -11);
        refused(green, "30: missing, ahead of the place", x -> x.cell(3, -1, 5), -11);
        refused(green, "30: the place below", x -> x.cell(0, -1, 5), -12);
        refused(green, "30: the place behind", x -> x.cell(0, 12, 5), -12);
    }

    private static void ofRows(Supplier<ThreeBalls> green) {
        refused(green, "31: no such sheet, ahead of missing", x -> x.copy(4, 0, 3, 0, 1), BAD);
        refused(green, "31: no such other, ahead of missing", x -> x.copy(3, 0, -1, 0, 1), BAD);
        refused(green, "31: missing, ahead of sorts and places", x -> x.copy(3, -1, 0, -1, -1), -11);
        refused(green, "31: missing other, ahead of sorts and places", x -> x.copy(0, -1, 3, -1, -1), -11);
        refused(green, "31: both missing", x -> x.copy(3, 0, 3, 0, 0), -11);
        refused(green, "31: sorts, ahead of places", x -> x.copy(0, -1, 1, -1, -1), -13);
        refused(green, "31: sorts, with n 0", x -> x.copy(2, 0, 1, 0, 0), -13);
        refused(green, "31: n below 0", x -> x.copy(0, 4, 0, 0, -1), -12);
        refused(green, "31: n far below 0", x -> x.copy(0, 4, 0, 0, FAR), -12);
        refused(green, "31: from outside", x -> x.copy(0, 9, 0, 0, 4), -12);
        refused(green, "31: to outside", x -> x.copy(0, 0, 0, 9, 4), -12);
        refused(green, "31: from below", x -> x.copy(0, -1, 0, 4, 4), -12);
        refused(green, "31: to below", x -> x.copy(0, 4, 0, -1, 4), -12);
        refused(green, "31: more than there are", x -> x.copy(0, 0, 0, 0, 13), -12);
        refused(green, "32: no such sheet, ahead of missing", x -> x.tries(4, 0, 0, 1), BAD);
        refused(green, "32: no such sort, ahead of missing", x -> x.tries(3, 3, 0, 1), BAD);
        refused(green, "32: no such sort (-1), ahead of missing", x -> x.tries(3, -1, 0, 1), BAD);
        refused(green, "32: n, ahead of missing", x -> x.tries(3, 0, 0, 11), BAD);
        refused(green, "32: n, ahead of the sort", x -> x.tries(0, 1, 0, -1), BAD);
        refused(green, "32: missing, ahead of the place", x -> x.tries(3, 0, -1, 1), -11);
        refused(green, "32: the sort, ahead of the place", x -> x.tries(0, 1, -1, 1), -13);
        refused(green, "32: the sort, with n 0", x -> x.tries(0, 2, 0, 0), -13);
        refused(green, "32: the first is outside", x -> x.tries(0, 0, 9, 1), -12);
        refused(green, "32: below 0", x -> x.tries(0, 0, -1, 1), -12);
        refused(green, "33: the kind, ahead of no stall", x -> x.taken(2, 6), BAD);
        refused(green, "33: the kind below, ahead of no stall", x -> x.taken(-1, -1), BAD);
        refused(green, "33: no stall", x -> x.taken(2, 5), -11);
        refused(green, "33: not under it", x -> x.taken(0, 4), -13);
    }

    private static void onFull() {
        Supplier<ThreeBalls> green = Greens::full;
        refused(green, "2: full", x -> x.stall(0, 0, 0, 1), FULL);
        refused(green, "2: wrong kind, ahead of full", x -> x.stall(6, 0, 0, 1), BAD);
        refused(green, "2: wrong peg, ahead of full", x -> x.stall(0, 20, 0, 1), BAD);
        refused(green, "2: wrong size, ahead of full", x -> x.stall(0, 0, 10, 1), BAD);
        refused(green, "2: wrong price, ahead of full", x -> x.stall(0, 0, 0, 0), BAD);
        refused(green, "6: full", x -> x.hand(0, 0, 0), FULL);
        refused(green, "6: wrong lean in x, ahead of full", x -> x.hand(6, 0, 0), BAD);
        refused(green, "6: wrong lean in y, ahead of full", x -> x.hand(0, -6, 0), BAD);
        refused(green, "6: wrong scatter, ahead of full", x -> x.hand(0, 0, 6), BAD);
        refused(green, "9: full", x -> x.tried(0, 0, 0, 0), FULL);
        refused(green, "9: wrong stall, ahead of full", x -> x.tried(8, 0, 0, 0), BAD);
        refused(green, "9: wrong hand, ahead of full", x -> x.tried(0, 6, 0, 0), BAD);
        refused(green, "9: wrong aim, ahead of full", x -> x.tried(0, 0, 20, 0), BAD);
        refused(green, "9: wrong seed, ahead of full", x -> x.tried(0, 0, 0, 100000), BAD);
        refused(green, "10: full", x -> x.shown(0, 0, 0, 0), FULL);
        refused(green, "10: wrong stall, ahead of full", x -> x.shown(8, 0, 0, 0), BAD);
        refused(green, "10: wrong hand, ahead of full", x -> x.shown(0, 6, 0, 0), BAD);
        refused(green, "10: wrong aim, ahead of full", x -> x.shown(0, 0, 20, 0), BAD);
        refused(green, "10: wrong won, ahead of full", x -> x.shown(0, 0, 0, 2), BAD);
        refused(green, "15: full", x -> x.feed(1, 0), FULL);
        refused(green, "15: wrong n, ahead of full", x -> x.feed(0, 0), BAD);
        refused(green, "15: wrong n, ahead of full", x -> x.feed(9, 0), BAD);
        refused(green, "16: full, the tape stays", x -> x.text(), FULL);
        refused(green, "21: full", x -> x.test(1, 0), FULL);
        refused(green, "21: wrong hours, ahead of full", x -> x.test(21, 0), BAD);
        refused(green, "21: wrong answers, ahead of full", x -> x.test(1, 400000), BAD);
        refused(green, "32: all left out, as the tries are full", x -> x.tries(0, 0, 0, 3), 0);
        refused(green, "17: no seventh text", x -> x.force(6), BAD);
        refused(green, "3: no ninth stall", x -> x.set(8, 0, 50), -5);
        refused(green, "22: no ninth stall", x -> x.find(256, 0), BAD);
    }

    /** What only asks changes nothing either, though it works on rows that are used again. */
    private static void lookingChangesNothing() {
        List<Consumer<ThreeBalls>> asked = new ArrayList<>();
        asked.add(x -> x.odds(0, 0, 1010, 0));
        asked.add(x -> x.best(1, 1, 0));
        asked.add(x -> x.wins(0, 0, 0));
        asked.add(x -> x.setAll(0, 8, 0));
        asked.add(x -> x.worth(0, 0, 1010, 0, 0));
        asked.add(x -> x.leaves(1, 0));
        asked.add(x -> x.says(0, 0, 1010, 0, 309));
        asked.add(x -> x.player(0, 1010, 7, 999, 630));
        asked.add(x -> x.most(0, 1010, 7, 999, 6));
        asked.add(x -> x.find(3, 0));
        asked.add(x -> x.year(199, 0));
        asked.add(x -> x.make(5, 1, 10, 100, -99));
        asked.add(x -> x.walk(1, 200, 1));
        asked.add(x -> x.taken(0, 0));
        asked.add(x -> x.told(0, 8));
        asked.add(x -> x.tryTold(0, 0));
        for (int i = 0; i < asked.size(); i++) {
            Consumer<ThreeBalls> ask = asked.get(i);
            Call call = x -> {
                ask.accept(x);
                return 0;
            };
            refused(Greens::some, "asked " + i, call, 0);
            refused(Greens::full, "asked " + i + " of a full green", call, 0);
        }
        refused(Greens::some, "29: a missing sheet is made missing", x -> x.sheet(3, -1, 0), 1);
        refused(Greens::some, "31: copy of none", x -> x.copy(0, 12, 0, 12, 0), 0);
        refused(Greens::some, "31: copy onto itself", x -> x.copy(1, 3, 1, 3, 9), 9);
        refused(Greens::some, "32: tries, none asked", x -> x.tries(0, 0, 0, 0), 0);
        refused(Greens::some, "32: tries that are none are left out", x -> x.tries(0, 0, 0, 3), 0);
    }

    /** A fault empties the tape and leaves all else. */
    private static void faultsOfATape() {
        Supplier<ThreeBalls> emptied = () -> {
            ThreeBalls x = Greens.some();
            x.text();
            return x;
        };
        ThreeBalls x = Greens.some();
        CHECKS.due("16: the text ends too early", x.text(), -100 - 12);
        CHECKS.due("16: empty then", x.count(5), 0);
        refused(emptied, "16: an empty tape", y -> y.text(), -100);
        refused(emptied, "16: another fault", y -> Checks.read(y, "play 1;skill 2;leave 3"), -122);
        ThreeBalls y = Greens.some();
        ThreeBalls z = Greens.some();
        y.text();
        for (int what = 0; what < 8; what++) {
            if (what != 5) CHECKS.due("16: by a fault, count " + what, y.count(what), z.count(what));
        }
        CHECKS.due("16: the rule by a fault", y.says(0, 0, 1010, 0, 309), z.says(0, 0, 1010, 0, 309));
    }
}
