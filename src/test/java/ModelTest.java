import java.util.Random;

/** Runs of calls by seeds, all promises mixed, against the model. */
public final class ModelTest {
    private static final Checks CHECKS = new Checks("ModelTest");
    private static final String[] WORDS = {
        "play", "skill", "leave", "odds", "price", "bear", "seems", "won", "tries", "or", "and", "not",
        "(", ")", ";", "+", "-", "*", "<", "=", "0", "1", "7", "99", "1000", "9999", "12345", "wort", "#", "A",
    };

    private final Random random;
    private final ThreeBalls x = new ThreeBalls();
    private final Model m = new Model();
    private final String run;

    private ModelTest(int seed) {
        random = new Random(seed);
        run = "run " + seed + ": ";
    }

    public static void main(String[] args) {
        int runs = args.length > 0 ? Integer.parseInt(args[0]) : 300;
        for (int seed = 0; seed < runs; seed++) {
            new ModelTest(seed).calls();
        }
        for (int seed = 0; seed < 20 * runs; seed++) {
            new ModelTest(seed).texts();
        }
        CHECKS.end();
    }

    private int below(int n) {
        return random.nextInt(n);
    }

    /** Mostly one of low .. high, now and then one just outside or far away. */
    private int about(int low, int high) {
        int die = below(40);
        if (die == 0) return low - 1;
        if (die == 1) return high + 1;
        if (die == 2 && below(5) == 0) return random.nextInt();
        return low + below(high - low + 1);
    }

    private int aim() {
        return below(30) == 0 ? random.nextInt(2200) - 50 : 100 * below(20) + below(20);
    }

    private int someStall() {
        return about(0, Math.max(0, m.stalls.size() - 1));
    }

    private int someHand() {
        return about(0, Math.max(0, m.hands.size() - 1));
    }

    private int with() {
        return 10 * someStall() + someHand();
    }

    private void due(String call, long got, long want) {
        CHECKS.due(run + call, got, want);
    }

    private void calls() {
        int stalls = 1 + below(8);
        for (int i = 0; i < stalls; i++) stallCall();
        int hands = 1 + below(6);
        for (int i = 0; i < hands; i++) handCall();
        for (int i = stalls + hands; i < 500; i++) {
            switch (below(33)) {
                case 0: if (below(8) == 0) stallCall(); break;
                case 1: case 2: case 3: setCall(); break;
                case 4: if (below(8) == 0) handCall(); break;
                case 5: case 6: lookCalls(); break;
                case 7: case 8: case 9: case 10: tryCalls(); break;
                case 11: case 12: worthCalls(); break;
                case 13: case 14: textCalls(); break;
                case 15: case 16: playerCalls(); break;
                case 17: case 18: case 19: testCalls(); break;
                case 20: case 21: makeCall(); break;
                case 22: case 23: walkCalls(); break;
                case 24: imageCalls(); break;
                case 25: case 26: countCalls(); break;
                default: hostCalls(); break;
            }
        }
    }

    private void stallCall() {
        int kind = about(0, 5);
        int peg = aim();
        int size = about(0, 9);
        int price = below(3) == 0 ? about(1, 99) : about(1, 20);
        due("stall(" + kind + ", " + peg + ", " + size + ", " + price + ")",
            x.stall(kind, peg, size, price), m.stall(kind, peg, size, price));
    }

    private void setCall() {
        int s = someStall();
        int what = about(0, 3);
        int v = what == 0 ? about(1, 99) : what == 3 ? about(0, 1) : about(0, below(2) == 0 ? 999 : 60);
        due("set(" + s + ", " + what + ", " + v + ")", x.set(s, what, v), m.set(s, what, v));
    }

    private void handCall() {
        int a = about(-5, 5);
        int b = about(-5, 5);
        int c = about(0, 5);
        due("hand(" + a + ", " + b + ", " + c + ")", x.hand(a, b, c), m.hand(a, b, c));
    }

    private void lookCalls() {
        int s = someStall();
        int h = someHand();
        int what = about(0, 8);
        due("told(" + s + ", " + what + ")", x.told(s, what), m.told(s, what));
        int a = about(-12, 12);
        int b = about(-12, 12);
        due("wins(" + s + ", " + a + ", " + b + ")", x.wins(s, a, b), m.wins(s, a, b));
        int aim = aim();
        int part = about(0, 1);
        due("odds(" + s + ", " + h + ", " + aim + ", " + part + ")", x.odds(s, h, aim, part), m.odds(s, h, aim, part));
        int of = about(0, 2);
        due("best(" + s + ", " + h + ", " + of + ")", x.best(s, h, of), m.best(s, h, of));
    }

    private void tryCalls() {
        int s = someStall();
        int h = someHand();
        int aim = below(2) == 0 || !m.isStall(s) ? aim() : m.told(s, 1);
        if (below(2) == 0) {
            int seed = about(0, 99999);
            due("tried(" + s + ", " + h + ", " + aim + ", " + seed + ")", x.tried(s, h, aim, seed), m.tried(s, h, aim, seed));
        } else {
            int won = about(0, 1);
            due("shown(" + s + ", " + h + ", " + aim + ", " + won + ")", x.shown(s, h, aim, won), m.shown(s, h, aim, won));
        }
        int t = about(0, Math.max(0, m.tries.size() - 1));
        int what = about(0, 4);
        due("tryTold(" + t + ", " + what + ")", x.tryTold(t, what), m.tryTold(t, what));
        int n = about(1, 8);
        int part = about(0, 1);
        due("setAll(" + s + ", " + n + ", " + part + ")", x.setAll(s, n, part), m.setAll(s, n, part));
    }

    private void worthCalls() {
        int s = someStall();
        int h = someHand();
        int aim = aim();
        int what = about(0, 1);
        int part = about(0, 1);
        due("worth(" + s + ", " + h + ", " + aim + ", " + what + ", " + part + ")",
            x.worth(s, h, aim, what, part), m.worth(s, h, aim, what, part));
        if (below(4) == 0) {
            due("leaves(" + h + ", " + part + ")", x.leaves(h, part), m.leaves(h, part));
        }
    }

    private String expression(int depth) {
        int die = depth <= 0 ? below(8) : below(18);
        if (die < 2) return "" + below(below(3) == 0 ? 10000 : 60);
        if (die < 8) return ModelText.NAMES.get(die - 2);
        if (die == 8) return "(" + expression(depth - 1) + ")";
        if (die == 9) return "-" + expression(0);
        if (die == 10) return "not " + expression(depth - 1);
        String[] signs = {"+", "-", "*", "<", "=", " and ", " or "};
        return expression(depth - 1) + signs[die - 11] + expression(depth - 1);
    }

    private String someText() {
        StringBuilder b = new StringBuilder();
        if (below(3) > 0) {
            String[] plays = {"won<3", "tries<won*2+3", "1", "won*3<tries+9", expression(2), expression(3)};
            b.append("play ").append(plays[below(plays.length)]).append(";\nskill ").append(expression(2));
            b.append("; leave ").append(expression(1)).append(";");
        } else {
            int n = 1 + below(25);
            b.append("play ");
            for (int i = 0; i < n; i++) b.append(WORDS[below(WORDS.length)]).append(below(3) == 0 ? "" : " ");
        }
        if (below(4) == 0) {
            int at = below(b.length());
            b.setCharAt(at, (char) below(256));
        }
        return b.toString();
    }

    private void textCalls() {
        String text = someText();
        for (int from = 0; from < text.length(); from += 8) {
            int n = Math.min(8, text.length() - from);
            long bytes = random.nextLong();
            for (int k = n - 1; k >= 0; k--) {
                bytes = bytes << 8 | text.charAt(from + k);
            }
            due("feed", x.feed(n, bytes), m.feed(n, bytes));
        }
        due("feed", x.feed(9, 0), m.feed(9, 0));
        int got = x.text();
        due("text of " + text.replace('\n', '/'), got, m.text());
        int t = about(0, m.texts.size() - 1);
        due("force(" + t + ")", x.force(t), m.force(t));
    }

    /** Many texts, valid and not, each on its own object. */
    private void texts() {
        String text = below(2) == 0 ? someText() : broken();
        if (text.length() > 160) text = text.substring(0, 160);
        Checks.feed(x, text);
        for (char c : text.toCharArray()) m.feed(1, c);
        due("text of " + text.replace('\n', '/'), x.text(), m.text());
        stallCall();
        handCall();
        setCall();
        if (m.texts.size() == 2) {
            x.force(1);
            m.force(1);
            int had = below(10000);
            due("says of " + text, x.says(0, 0, 505, 0, had), m.says(0, 0, 505, 0, had));
            due("says of " + text, x.says(0, 0, 505, 1, had), m.says(0, 0, 505, 1, had));
            due("told of " + text, x.told(0, 8), m.told(0, 8));
        }
    }

    /** A right text in which some tokens were put, taken out or made others. */
    private String broken() {
        StringBuilder b = new StringBuilder();
        String[] parts = ("play " + expression(3) + " ; skill " + expression(2) + " ; leave " + expression(2) + " ;")
            .replaceAll("([-()+*<=])", " $1 ").trim().split(" +");
        int changes = below(3);
        for (String p : parts) {
            int die = below(parts.length);
            if (changes > 0 && die == 0) {
                b.append(WORDS[below(WORDS.length)]).append(' ');
            } else if (changes > 0 && die == 1) {
                b.append(WORDS[below(WORDS.length)]).append(' ').append(p).append(' ');
            } else if (changes == 0 || die != 2) {
                b.append(p).append(below(9) == 0 ? "\n " : " ");
            }
        }
        return b.toString();
    }

    private void playerCalls() {
        int with = with();
        int aim = below(2) == 0 || !m.isStall(with / 10) ? aim() : m.told(with / 10, 1);
        int seed = about(0, 99999);
        int coin = about(0, below(2) == 0 ? 9999 : 200);
        int what = below(9) == 0 ? below(700) : 10 * below(64) + below(4);
        String of = "(" + with + ", " + aim + ", " + seed + ", " + coin + ", ";
        due("player" + of + what + ")", x.player(with, aim, seed, coin, what), m.player(with, aim, seed, coin, what));
        int many = about(0, 6);
        due("most" + of + many + ")", x.most(with, aim, seed, coin, many), m.most(with, aim, seed, coin, many));
        int key = about(0, 1);
        int had = about(0, 9999);
        int s = someStall();
        int h = someHand();
        due("says(" + s + ", " + h + ", " + aim + ", " + key + ", " + had + ")",
            x.says(s, h, aim, key, had), m.says(s, h, aim, key, had));
    }

    private void testCalls() {
        if (below(5) == 0) {
            int hours = about(1, 20);
            int answers = 0;
            for (int k = 0; k < 6; k++) answers = answers * 10 + below(below(40) == 0 ? 10 : 4);
            due("test(" + hours + ", " + answers + ")", x.test(hours, answers), m.test(hours, answers));
        }
        int set = about(0, (1 << m.stalls.size()) - 1);
        int what = about(0, 1);
        due("find(" + set + ", " + what + ")", x.find(set, what), m.find(set, what));
        int hours = about(0, below(2) == 0 ? 199 : 20);
        int of = about(0, 2);
        due("year(" + hours + ", " + of + ")", x.year(hours, of), m.year(hours, of));
    }

    private void makeCall() {
        int kind = about(0, 5);
        int h = someHand();
        int bear = about(0, below(2) == 0 ? 999 : 100);
        int odds = about(0, 1000);
        int left = below(2) == 0 ? about(-999, 99) : about(-20, 50);
        if (below(3) > 0) odds = about(0, 300);
        due("make(" + kind + ", " + h + ", " + bear + ", " + odds + ", " + left + ")",
            x.make(kind, h, bear, odds, left), m.make(kind, h, bear, odds, left));
    }

    private void walkCalls() {
        int h = someHand();
        int coin = about(0, 200);
        for (int i = 0; i < 20 && Model.in(coin, 0, 200) && m.ordersOfWalk(coin) > 20000; i++) coin /= 2;
        int what = about(0, 1);
        due("walk(" + h + ", " + coin + ", " + what + ")", x.walk(h, coin, what), m.walk(h, coin, what));
    }

    private void imageCalls() {
        if (below(3) == 0) due("image()", x.image(), m.image());
        if (below(2) == 0) due("back()", x.back(), m.back());
    }

    private void countCalls() {
        int what = about(0, 7);
        due("count(" + what + ")", x.count(what), m.count(what));
        int s = someStall();
        int k = about(0, 5);
        due("taken(" + s + ", " + k + ")", x.taken(s, k), m.taken(s, k));
    }

    private void hostCalls() {
        int sheet = about(0, 3);
        int sort = about(-1, 2);
        int n = about(0, 40);
        if (below(3) == 0) {
            due("sheet(" + sheet + ", " + sort + ", " + n + ")", x.sheet(sheet, sort, n), m.sheet(sheet, sort, n));
        }
        for (int k = 0; k < 12; k++) {
            int i = about(0, 39);
            int v = i % 4 == 0 ? someStall() : i % 4 == 1 ? someHand() : i % 4 == 2 ? aim() : about(0, 1);
            due("cell(" + sheet + ", " + i + ", " + v + ")", x.cell(sheet, i, v), m.cell(sheet, i, v));
        }
        int other = about(0, 3);
        int i = about(0, 20);
        int j = about(0, 20);
        int many = about(0, 12);
        due("copy(" + sheet + ", " + i + ", " + other + ", " + j + ", " + many + ")",
            x.copy(sheet, i, other, j, many), m.copy(sheet, i, other, j, many));
        if (below(4) == 0) {
            int from = below(3) == 0 ? about(0, 40) : 4 * below(10);
            int t = about(0, 4);
            int as = below(2) == 0 && Model.in(sheet, 0, 3) ? m.sorts[sheet] : about(0, 2);
            due("tries(" + sheet + ", " + as + ", " + from + ", " + t + ")",
                x.tries(sheet, as, from, t), m.tries(sheet, as, from, t));
        }
    }
}
