import java.util.ArrayList;
import java.util.List;
import java.util.function.IntPredicate;
import java.util.function.Supplier;

/**
 * Each argument of each call: every number that the document takes is taken, the first ones
 * outside and the farthest are refused, as the promise says. What is taken may still find
 * nothing, so only the refusal of a wrong number is looked at here.
 */
public final class BoundsTest {
    private static final Checks CHECKS = new Checks("BoundsTest");
    private static final int MIN = Integer.MIN_VALUE, MAX = Integer.MAX_VALUE;
    private static final IntPredicate PLACE = v -> v >= 0 && v <= 1919 && v % 100 <= 19;
    private static final IntPredicate BIT = in(0, 1);
    private static final int[] VALUES = values();

    private interface Call {
        long of(ThreeBalls x, int[] given);
    }

    public static void main(String[] args) {
        stallsAndHands();
        triesAndAims();
        wordsAndPlayers();
        inspector();
        host();
        onFullAndSmallGreens();
        constants();
        CHECKS.end();
    }

    private static IntPredicate in(int low, int high) {
        return v -> v >= low && v <= high;
    }

    /** All small numbers, those about each bound of the document, and the farthest. */
    private static int[] values() {
        List<Integer> v = new ArrayList<>();
        int[] about = {4000, 9999, 65536, 99999, 100000, 333333, 400000, 999999, 1000000, -2000, -4000, -65536};
        for (int i = -1100; i <= 2200; i++) v.add(i);
        for (int a : about) {
            for (int i = -3; i <= 3; i++) v.add(a + i);
        }
        for (int i = 0; i < 3; i++) {
            v.add(MIN + i);
            v.add(MAX - i);
        }
        return v.stream().mapToInt(Integer::intValue).toArray();
    }

    /** Each of the arguments alone is made each value, the others staying as given. */
    private static void bounds(String name, Supplier<ThreeBalls> green, Call call, long refusal, int[] given, IntPredicate... taken) {
        for (int k = 0; k < taken.length; k++) {
            if (taken[k] == null) continue;
            int calls = MAX;
            ThreeBalls x = null;
            for (int v : VALUES) {
                // What is taken may fill a table, so a new green is had often.
                if (calls >= 4) {
                    x = green.get();
                    calls = 0;
                }
                int[] now = given.clone();
                now[k] = v;
                boolean refused = call.of(x, now) == refusal;
                calls += taken[k].test(v) ? 1 : 0;
                CHECKS.holds(name + ": argument " + k + " " + v + (refused ? " is refused" : " is taken"), refused != taken[k].test(v));
            }
        }
    }

    private static void stallsAndHands() {
        bounds("2: stall", ThreeBalls::new, (x, a) -> x.stall(a[0], a[1], a[2], a[3]), ThreeBalls.BAD,
            new int[] {0, 1010, 3, 5}, in(0, 5), PLACE, in(0, 9), in(1, 99));
        Supplier<ThreeBalls> green = BoundsTest::twoOfAll;
        IntPredicate two = in(0, 1);
        Call set = (x, a) -> x.set(a[0], a[1], a[2]);
        bounds("3: set price", green, set, -5, new int[] {0, 0, 1}, two, in(0, 3), in(1, 99));
        bounds("3: set bear", green, set, -5, new int[] {0, 1, 1}, two, in(0, 3), in(0, 999));
        bounds("3: set seems", green, set, -5, new int[] {1, 2, 1}, two, in(0, 3), in(0, 999));
        bounds("3: set", green, set, -5, new int[] {1, 3, 1}, two, in(0, 3), BIT);
        bounds("4: told", green, (x, a) -> x.told(a[0], a[1]), -5, new int[] {1, 3}, two, in(0, 8));
        bounds("5: wins", green, (x, a) -> x.wins(a[0], a[1], a[2]), ThreeBalls.BAD, new int[] {0, 0, 0}, two, in(-40, 40), in(-40, 40));
        bounds("6: hand", ThreeBalls::new, (x, a) -> x.hand(a[0], a[1], a[2]), ThreeBalls.BAD,
            new int[] {0, 0, 0}, in(-5, 5), in(-5, 5), in(0, 5));
        bounds("7: odds", green, (x, a) -> x.odds(a[0], a[1], a[2], a[3]), ThreeBalls.NO, new int[] {0, 0, 1010, 0}, two, two, PLACE, BIT);
        bounds("8: best", green, (x, a) -> x.best(a[0], a[1], a[2]), ThreeBalls.NO, new int[] {0, 0, 0}, two, two, in(0, 2));
    }

    private static ThreeBalls twoOfAll() {
        ThreeBalls x = Greens.single();
        x.stall(4, 303, 2, 7);
        x.hand(1, 1, 2);
        x.shown(1, 1, 303, 0);
        Checks.read(x, Greens.RIGHT);
        return x;
    }

    private static void triesAndAims() {
        Supplier<ThreeBalls> green = BoundsTest::twoOfAll;
        IntPredicate two = in(0, 1);
        bounds("9: tried", green, (x, a) -> x.tried(a[0], a[1], a[2], a[3]), ThreeBalls.BAD,
            new int[] {0, 0, 1010, 7}, two, two, PLACE, in(0, 99999));
        bounds("10: shown", green, (x, a) -> x.shown(a[0], a[1], a[2], a[3]), ThreeBalls.BAD,
            new int[] {0, 0, 1010, 1}, two, two, PLACE, BIT);
        bounds("11: tryTold", green, (x, a) -> x.tryTold(a[0], a[1]), ThreeBalls.NONE, new int[] {1, 0}, two, in(0, 4));
        bounds("12: setAll", green, (x, a) -> x.setAll(a[0], a[1], a[2]), ThreeBalls.NO, new int[] {0, 1, 0}, two, in(1, 8), BIT);
    }

    private static void wordsAndPlayers() {
        Supplier<ThreeBalls> green = BoundsTest::twoOfAll;
        IntPredicate two = in(0, 1);
        bounds("13: worth", green, (x, a) -> x.worth(a[0], a[1], a[2], a[3], a[4]), ThreeBalls.NO,
            new int[] {0, 0, 1010, 0, 0}, two, two, PLACE, BIT, BIT);
        bounds("14: leaves", green, (x, a) -> x.leaves(a[0], a[1]), ThreeBalls.NO, new int[] {0, 0}, two, BIT);
        bounds("15: feed", green, (x, a) -> x.feed(a[0], 0), ThreeBalls.BAD, new int[] {1}, in(1, 8));
        bounds("17: force", green, (x, a) -> x.force(a[0]), ThreeBalls.BAD, new int[] {1}, two);
        bounds("18: says", green, (x, a) -> x.says(a[0], a[1], a[2], a[3], a[4]), ThreeBalls.NO,
            new int[] {0, 0, 1010, 0, 0}, two, two, PLACE, BIT, in(0, 9999));
        IntPredicate with = v -> v == 0 || v == 1 || v == 10 || v == 11;
        bounds("19: player", green, (x, a) -> x.player(a[0], a[1], a[2], a[3], a[4]), ThreeBalls.NO,
            new int[] {0, 1010, 7, 100, 0}, with, PLACE, in(0, 99999), in(0, 9999), v -> v >= 0 && v <= 633 && v % 10 <= 3);
        bounds("20: most", green, (x, a) -> x.most(a[0], a[1], a[2], a[3], a[4]), ThreeBalls.BAD,
            new int[] {0, 1010, 7, 100, 1}, with, PLACE, in(0, 99999), in(0, 9999), in(0, 6));
    }

    private static void inspector() {
        Supplier<ThreeBalls> green = BoundsTest::twoOfAll;
        IntPredicate answers = v -> v >= 0 && v <= 333333 && String.valueOf(v).matches("[0-3]+");
        bounds("21: test", ThreeBalls::new, (x, a) -> x.test(a[0], a[1]), ThreeBalls.BAD, new int[] {3, 0}, in(1, 20), answers);
        for (int tens = 1; tens <= 100000; tens *= 10) {
            for (int digit = 0; digit <= 9; digit++) {
                int want = digit <= 3 ? 0 : ThreeBalls.BAD;
                CHECKS.due("21: a digit " + digit + " at " + tens, new ThreeBalls().test(1, digit * tens), want);
            }
        }
        bounds("22: find", green, (x, a) -> x.find(a[0], a[1]), ThreeBalls.BAD, new int[] {3, 0}, in(0, 3), BIT);
        bounds("23: year", green, (x, a) -> x.year(a[0], a[1]), ThreeBalls.BAD, new int[] {3, 0}, in(0, 199), in(0, 2));
        bounds("24: make", green, (x, a) -> x.make(a[0], a[1], a[2], a[3], a[4]), ThreeBalls.BAD,
            new int[] {0, 0, 10, 100, 1}, in(0, 5), in(0, 1), in(0, 999), in(0, 1000), in(-999, 99));
        bounds("25: walk", green, (x, a) -> x.walk(a[0], a[1], a[2]), ThreeBalls.BAD, new int[] {0, 5, 0}, in(0, 1), in(0, 200), BIT);
        bounds("28: count", green, (x, a) -> x.count(a[0]), ThreeBalls.BAD, new int[] {0}, in(0, 7));
    }

    private static ThreeBalls withSheets() {
        ThreeBalls x = twoOfAll();
        x.sheet(0, 0, 40);
        x.sheet(1, 0, 3);
        x.sheet(2, 0, 40);
        x.sheet(3, 0, 1);
        return x;
    }

    private static void host() {
        Supplier<ThreeBalls> green = BoundsTest::withSheets;
        IntPredicate four = in(0, 3);
        Call sheet = (x, a) -> x.sheet(a[0], a[1], a[2]);
        bounds("29: sheet", green, sheet, ThreeBalls.BAD, new int[] {0, 0, 1}, four, in(-1, 2), v -> v <= 40);
        bounds("29: sheet of ints", green, sheet, ThreeBalls.BAD, new int[] {3, 2, 1}, four, in(-1, 2), v -> v <= 40);
        bounds("29: sheet below 0", green, sheet, -14, new int[] {0, 1, 1}, null, null, v -> v >= 0);
        bounds("29: sheet missing", green, sheet, 1, new int[] {0, -1, 1}, null, null, v -> false);
        Call cell = (x, a) -> x.cell(a[0], a[1], a[2]);
        bounds("30: cell", green, cell, ThreeBalls.BAD, new int[] {0, 0, 1}, four);
        bounds("30: place in 40", green, cell, -12, new int[] {2, 0, 1}, null, in(0, 39));
        bounds("30: place in 3", green, cell, -12, new int[] {1, 0, 1}, null, in(0, 2));
        bounds("30: any number", green, cell, 1, new int[] {1, 0, 1}, null, null, v -> false);
        Call copy = (x, a) -> x.copy(a[0], a[1], a[2], a[3], a[4]);
        bounds("31: copy", green, copy, ThreeBalls.BAD, new int[] {0, 0, 1, 0, 1}, four, null, four);
        bounds("31: places of 40 to 3", green, copy, -12, new int[] {0, 0, 1, 0, 2}, null, in(0, 38), null, in(0, 1), in(0, 3));
        bounds("31: places of 40 to 40", green, copy, -12, new int[] {0, 5, 2, 7, 9}, null, in(0, 31), null, in(0, 31), in(0, 33));
        bounds("31: places for none", green, copy, -12, new int[] {1, 0, 2, 0, 0}, null, in(0, 3), null, in(0, 40), in(0, 3));
        Call tries = (x, a) -> x.tries(a[0], a[1], a[2], a[3]);
        bounds("32: tries", green, tries, ThreeBalls.BAD, new int[] {0, 0, 0, 1}, four, in(0, 2), null, in(0, 10));
        bounds("32: one of 40", green, tries, -12, new int[] {0, 0, 0, 1}, null, null, in(0, 36));
        bounds("32: ten of 40", green, tries, -12, new int[] {0, 0, 0, 10}, null, null, in(0, 0));
        bounds("32: nine of 40", green, tries, -12, new int[] {0, 0, 0, 9}, null, null, in(0, 4));
        bounds("32: one of 3", green, tries, -12, new int[] {1, 0, 0, 1}, null, null, v -> false);
        Call taken = (x, a) -> x.taken(a[0], a[1]);
        bounds("33: taken, kind", green, taken, ThreeBalls.BAD, new int[] {0, 0}, null, in(0, 5));
        bounds("33: taken, stall", green, taken, -11, new int[] {0, 0}, in(0, 1));
    }

    /** The numbers of things go as far as there are any, up to full tables. */
    private static void onFullAndSmallGreens() {
        numbers("full", Greens::full, 8, 6, 60, 6);
        numbers("single", Greens::single, 1, 1, 1, 1);
        numbers("empty", ThreeBalls::new, 0, 0, 0, 1);
    }

    private static void numbers(String name, Supplier<ThreeBalls> green, int stalls, int hands, int tries, int texts) {
        IntPredicate stall = in(0, stalls - 1);
        IntPredicate hand = in(0, hands - 1);
        bounds("3: " + name, green, (x, a) -> x.set(a[0], 3, 0), -5, new int[1], stall);
        bounds("4: " + name, green, (x, a) -> x.told(a[0], 8), -5, new int[1], stall);
        bounds("5: " + name, green, (x, a) -> x.wins(a[0], 0, 0), ThreeBalls.BAD, new int[1], stall);
        bounds("12: " + name, green, (x, a) -> x.setAll(a[0], 8, 0), ThreeBalls.NO, new int[1], stall);
        bounds("33: " + name, green, (x, a) -> x.taken(a[0], 0), -11, new int[1], stall);
        bounds("14: " + name, green, (x, a) -> x.leaves(a[0], 0), ThreeBalls.NO, new int[1], hand);
        bounds("24: " + name, green, (x, a) -> x.make(0, a[0], 0, 0, 0), ThreeBalls.BAD, new int[1], hand);
        bounds("25: " + name, green, (x, a) -> x.walk(a[0], 3, 0), ThreeBalls.BAD, new int[1], hand);
        bounds("11: " + name, green, (x, a) -> x.tryTold(a[0], 2), ThreeBalls.NONE, new int[1], in(0, tries - 1));
        bounds("17: " + name, green, (x, a) -> x.force(a[0]), ThreeBalls.BAD, new int[1], in(0, texts - 1));
        bounds("22: " + name, green, (x, a) -> x.find(a[0], 0), ThreeBalls.BAD, new int[1], in(0, (1 << stalls) - 1));
        IntPredicate none = v -> false;
        IntPredicate stallIfHand = hands == 0 ? none : stall;
        IntPredicate handIfStall = stalls == 0 ? none : hand;
        int[] zero = new int[2];
        bounds("7: " + name, green, (x, a) -> x.odds(a[0], a[1], 0, 0), ThreeBalls.NO, zero, stallIfHand, handIfStall);
        bounds("8: " + name, green, (x, a) -> x.best(a[0], a[1], 0), ThreeBalls.NO, zero, stallIfHand, handIfStall);
        bounds("9: " + name, green, (x, a) -> x.tried(a[0], a[1], 0, 0), ThreeBalls.BAD, zero, stallIfHand, handIfStall);
        bounds("10: " + name, green, (x, a) -> x.shown(a[0], a[1], 0, 0), ThreeBalls.BAD, zero, stallIfHand, handIfStall);
        bounds("13: " + name, green, (x, a) -> x.worth(a[0], a[1], 0, 0, 0), ThreeBalls.NO, zero, stallIfHand, handIfStall);
        bounds("18: " + name, green, (x, a) -> x.says(a[0], a[1], 0, 0, 0), ThreeBalls.NO, zero, stallIfHand, handIfStall);
        IntPredicate with = v -> v >= 0 && v / 10 < stalls && v % 10 < hands;
        bounds("19: " + name, green, (x, a) -> x.player(a[0], 0, 0, 0, 0), ThreeBalls.NO, zero, with);
        bounds("20: " + name, green, (x, a) -> x.most(a[0], 0, 0, 0, 0), ThreeBalls.BAD, zero, with);
    }

    private static void constants() {
        CHECKS.due("1: NONE", ThreeBalls.NONE, -1);
        CHECKS.due("1: BAD", ThreeBalls.BAD, -2);
        CHECKS.due("1: STATE", ThreeBalls.STATE, -3);
        CHECKS.due("1: FULL", ThreeBalls.FULL, -4);
        CHECKS.due("1: NO", ThreeBalls.NO, -4611686018427387904L);
    }
}
