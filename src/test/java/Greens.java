/** Greens in the states that boundary cases are asked in. */
final class Greens {
    static final String RIGHT = "play 1;skill 2;leave 3;";

    private Greens() {
    }

    /** One of each thing that can be had. */
    static ThreeBalls single() {
        ThreeBalls x = new ThreeBalls();
        x.stall(0, 1010, 1, 5);
        x.hand(0, 0, 1);
        x.shown(0, 0, 1010, 1);
        x.test(3, 123012);
        return x;
    }

    /** A stall that wins 9 of 25 at 10, 10, with a bear and what it seems; the first rule. */
    static ThreeBalls priced() {
        ThreeBalls x = new ThreeBalls();
        x.stall(0, 1010, 1, 5);
        x.hand(0, 0, 2);
        x.set(0, 1, 30);
        x.set(0, 2, 40);
        return x;
    }

    /** Some of each thing, an image, a tape begun, a sheet of each sort; the fourth is missing. */
    static ThreeBalls some() {
        ThreeBalls x = new ThreeBalls();
        x.stall(5, 1010, 4, 5);
        x.stall(3, 303, 2, 9);
        x.hand(0, 0, 2);
        x.hand(1, -2, 3);
        x.set(0, 1, 20);
        x.set(1, 2, 30);
        x.shown(0, 0, 1010, 1);
        x.image();
        x.set(0, 3, 1);
        x.set(0, 0, 6);
        x.shown(0, 1, 1111, 0);
        x.tried(1, 0, 303, 7);
        x.test(3, 123012);
        x.test(2, 100);
        Checks.read(x, "play won<3;skill odds;leave price;");
        x.force(1);
        Checks.feed(x, "play 1;skill");
        sheets(x);
        return x;
    }

    /** Every table is full. */
    static ThreeBalls full() {
        ThreeBalls x = new ThreeBalls();
        for (int i = 0; i < 8; i++) {
            x.stall(i % 6, 101 * i + 500, 9 - i, i + 1);
        }
        for (int i = 0; i < 6; i++) {
            x.hand(i - 3, 3 - i, i);
            x.test(i + 1, 123012 + i % 2);
        }
        x.shown(7, 5, 1919, 1);
        x.image();
        for (int i = 1; i < 60; i++) {
            x.shown(i % 8, i % 6, i % 20, i % 2);
        }
        for (int i = 1; i < 6; i++) {
            Checks.read(x, "play " + i + ";skill " + i + ";leave " + i + ";");
        }
        x.force(5);
        Checks.feed(x, " ".repeat(160));
        sheets(x);
        return x;
    }

    private static void sheets(ThreeBalls x) {
        for (int sheet = 0; sheet < 3; sheet++) {
            x.sheet(sheet, sheet, 12);
            for (int i = 0; i < 12; i++) {
                x.cell(sheet, i, 100 + i);
            }
        }
    }
}
