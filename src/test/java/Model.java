import java.util.ArrayList;
import java.util.Arrays;
import java.util.List;

/**
 * What the document asks, in the slowest and plainest form, written apart from the class: throws
 * are counted one by one, texts are judged by states and worked out by a stack of signs, walks go
 * through all the orders of tries.
 */
final class Model {
    static final long NO = -4611686018427387904L;

    final List<int[]> stalls = new ArrayList<>();
    final List<int[]> hands = new ArrayList<>();
    final List<int[]> tries = new ArrayList<>();
    final List<int[]> tests = new ArrayList<>();
    final List<ModelText> texts = new ArrayList<>();
    final List<Integer> tape = new ArrayList<>();
    final int[][] sheets = new int[4][];
    final int[] sorts = new int[4];
    int rule = 0;
    List<int[]> keptStalls = null;
    int keptRule = 0;
    int keptTries = 0;

    static final int KIND = 0, X = 1, Y = 2, SIZE = 3, PRICE = 4, BEAR = 5, SEEMS = 6, BOOT = 7;

    Model() {
        texts.add(ModelText.read("play price < odds + seems ; skill 99 < odds ; leave 2 ;"));
    }

    static boolean pays(int kind, int size, int boot, int a, int b) {
        int far = Math.max(Math.abs(a), Math.abs(b));
        if (kind == 0) return far <= size;
        if (kind == 1) return far <= size / 2;
        if (kind == 2) return far <= size && a >= 0;
        if (kind == 3 && boot == 0) return far <= size && a >= 0 && !(a == 0 && b == 0);
        if (kind == 3) return far <= size && a > 0 && b != 0;
        if (kind == 4) return far <= size && Math.floorMod(a + b + b + boot, 3) == 0;
        if (boot == 0) return far <= size;
        return far <= size / 2 && a == 0;
    }

    static boolean place(int p) {
        return p >= 0 && p <= 1919 && p % 100 <= 19;
    }

    static boolean in(long v, long low, long high) {
        return v >= low && v <= high;
    }

    boolean isStall(int s) {
        return in(s, 0, stalls.size() - 1);
    }

    boolean isHand(int h) {
        return in(h, 0, hands.size() - 1);
    }

    int stall(int kind, int peg, int size, int price) {
        if (!in(kind, 0, 5) || !place(peg) || !in(size, 0, 9) || !in(price, 1, 99)) return -2;
        if (stalls.size() == 8) return -4;
        stalls.add(new int[] {kind, peg / 100, peg % 100, size, price, 0, 0, 0});
        return stalls.size() - 1;
    }

    int set(int s, int what, int v) {
        if (!isStall(s) || !in(what, 0, 3)) return -5;
        if (what == 0 && !in(v, 1, 99)) return -5;
        if ((what == 1 || what == 2) && !in(v, 0, 999)) return -5;
        if (what == 3 && !in(v, 0, 1)) return -5;
        int was = stalls.get(s)[PRICE + what];
        stalls.get(s)[PRICE + what] = v;
        return was;
    }

    int told(int s, int what) {
        if (!isStall(s) || !in(what, 0, 8)) return -5;
        int[] r = stalls.get(s);
        if (what == 0) return r[KIND];
        if (what == 1) return 100 * r[X] + r[Y];
        if (what <= 6) return r[what + 1];
        return what == 7 ? seen(r) : hours(r);
    }

    static int seen(int[] r) {
        int[] seen = {0, 1, 1, 2, 1, 2};
        return seen[r[KIND]] + (r[KIND] == 5 ? r[BOOT] : 0);
    }

    int hours(int[] r) {
        int h = texts.get(rule).says(2, new int[] {0, r[PRICE], r[BEAR], r[SEEMS], 0, 0});
        return h < 1 ? 1 : h > 99 ? 99 : h;
    }

    int wins(int s, int a, int b) {
        if (!isStall(s) || !in(a, -40, 40) || !in(b, -40, 40)) return -2;
        int[] r = stalls.get(s);
        return pays(r[KIND], r[SIZE], r[BOOT], a, b) ? 1 : 0;
    }

    int hand(int x, int y, int scatter) {
        if (!in(x, -5, 5) || !in(y, -5, 5) || !in(scatter, 0, 5)) return -2;
        if (hands.size() == 6) return -4;
        hands.add(new int[] {x, y, scatter});
        return hands.size() - 1;
    }

    static int ways(int[] h) {
        return (2 * h[2] + 1) * (2 * h[2] + 1);
    }

    static int winning(int[] r, int boot, int[] h, int aim) {
        int n = 0;
        for (int dx = -h[2]; dx <= h[2]; dx++) {
            for (int dy = -h[2]; dy <= h[2]; dy++) {
                int a = aim / 100 + h[0] + dx - r[X];
                int b = aim % 100 + h[1] + dy - r[Y];
                if (pays(r[KIND], r[SIZE], boot, a, b)) n++;
            }
        }
        return n;
    }

    static int bestAim(int[] r, int[] h) {
        int best = 0;
        for (int aim = 0; aim < 2000; aim++) {
            if (!place(aim)) continue;
            int more = winning(r, r[BOOT], h, aim) - winning(r, r[BOOT], h, best);
            boolean lower = aim % 100 < best % 100 || aim % 100 == best % 100 && aim < best;
            if (more > 0 || more == 0 && lower) best = aim;
        }
        return best;
    }

    static long part(long top, long bottom, int part) {
        long d = bottom;
        while (top % d != 0 || bottom % d != 0) d--;
        return part == 0 ? top / d : bottom / d;
    }

    long odds(int s, int h, int aim, int part) {
        if (!isStall(s) || !isHand(h) || !place(aim) || !in(part, 0, 1)) return NO;
        int[] r = stalls.get(s);
        return part(winning(r, r[BOOT], hands.get(h), aim), ways(hands.get(h)), part);
    }

    long best(int s, int h, int what) {
        if (!isStall(s) || !isHand(h) || !in(what, 0, 2)) return NO;
        int aim = bestAim(stalls.get(s), hands.get(h));
        return what == 0 ? aim : odds(s, h, aim, what - 1);
    }

    static boolean thrown(int[] r, int[] h, int aim, long lot) {
        int w = 2 * h[2] + 1;
        int a = aim / 100 + h[0] + (int) (lot % w) - h[2] - r[X];
        int b = aim % 100 + h[1] + (int) (lot / w % w) - h[2] - r[Y];
        return pays(r[KIND], r[SIZE], r[BOOT], a, b);
    }

    static long lot(int seed, int nth) {
        long lot = seed + 1;
        for (int i = 0; i <= nth; i++) lot = lot * 48271 % 2147483647L;
        return lot;
    }

    int tried(int s, int h, int aim, int seed) {
        if (!isStall(s) || !isHand(h) || !place(aim) || !in(seed, 0, 99999)) return -2;
        if (tries.size() == 60) return -4;
        int won = thrown(stalls.get(s), hands.get(h), aim, lot(seed, 0)) ? 1 : 0;
        tries.add(new int[] {s, h, aim, won, stalls.get(s)[BOOT]});
        return won;
    }

    int shown(int s, int h, int aim, int won) {
        if (!isStall(s) || !isHand(h) || !place(aim) || !in(won, 0, 1)) return -2;
        if (tries.size() == 60) return -4;
        tries.add(new int[] {s, h, aim, won, stalls.get(s)[BOOT]});
        return tries.size() - 1;
    }

    int tryTold(int t, int what) {
        return in(t, 0, tries.size() - 1) && in(what, 0, 4) ? tries.get(t)[what] : -1;
    }

    long setAll(int s, int n, int part) {
        if (!isStall(s) || !in(n, 1, 8) || !in(part, 0, 1)) return NO;
        List<int[]> own = new ArrayList<>();
        for (int[] t : tries) {
            if (t[0] == s) own.add(t);
        }
        long product = 1;
        for (int[] t : own.subList(Math.max(0, own.size() - n), own.size())) {
            int winning = winning(stalls.get(s), part == 0 ? 1 : 0, hands.get(t[1]), t[2]);
            product *= t[3] == 1 ? winning : ways(hands.get(t[1])) - winning;
        }
        return product;
    }

    long worth(int s, int h, int aim, int what, int part) {
        if (!isStall(s) || !isHand(h) || !place(aim) || !in(what, 0, 1) || !in(part, 0, 1)) return NO;
        int[] r = stalls.get(s);
        long bottom = ways(hands.get(h));
        return part(winning(r, r[BOOT], hands.get(h), aim) * (long) r[BEAR + what] - r[PRICE] * bottom, bottom, part);
    }

    long leaves(int h, int part) {
        if (!isHand(h) || !in(part, 0, 1)) return NO;
        int[] hand = hands.get(h);
        long top = 0;
        for (int[] r : stalls) {
            top += r[PRICE] * ways(hand) - winning(r, r[BOOT], hand, bestAim(r, hand)) * r[BEAR];
        }
        return part(top, ways(hand), part);
    }

    int feed(int n, long bytes) {
        if (!in(n, 1, 8)) return -2;
        if (tape.size() + n > 160) return -4;
        for (int k = 0; k < n; k++) {
            tape.add((int) (bytes & 255));
            bytes >>>= 8;
        }
        return tape.size();
    }

    int text() {
        if (texts.size() == 6) return -4;
        StringBuilder b = new StringBuilder();
        for (int c : tape) b.append((char) c);
        tape.clear();
        ModelText t = ModelText.read(b.toString());
        if (t.fault >= 0) return -100 - t.fault;
        texts.add(t);
        return texts.size() - 1;
    }

    int force(int t) {
        if (!in(t, 0, texts.size() - 1)) return -2;
        int was = rule;
        rule = t;
        return was;
    }

    int[] names(int[] r, int[] h, int aim, int won, int had) {
        int odds = 1000 * winning(r, r[BOOT], h, aim) / ways(h);
        return new int[] {odds, r[PRICE], r[BEAR], r[SEEMS], won, had};
    }

    long says(int s, int h, int aim, int key, int had) {
        if (!isStall(s) || !isHand(h) || !place(aim) || !in(key, 0, 1) || !in(had, 0, 9999)) return NO;
        int won = key == 0 ? had / 100 : 0;
        int tried = key == 0 ? had % 100 : 0;
        return texts.get(rule).says(key, names(stalls.get(s), hands.get(h), aim, won, tried));
    }

    boolean isPlayer(int with, int aim, int seed, int coin) {
        return with >= 0 && isStall(with / 10) && isHand(with % 10) && place(aim)
            && in(seed, 0, 99999) && in(coin, 0, 9999);
    }

    long[] outcome(int with, int aim, int seed, int coin, int let) {
        int[] r = stalls.get(with / 10);
        int[] h = hands.get(with % 10);
        int had = 0;
        int won = 0;
        long paid = 0;
        while (coin - paid >= r[PRICE] && had < 40 && texts.get(rule).says(0, names(r, h, aim, won, had)) != 0) {
            boolean isLet = had < 6 && (let & 1 << had) != 0;
            if (isLet || thrown(r, h, aim, lot(seed, had))) won++;
            had++;
            paid += r[PRICE];
        }
        return new long[] {had, won, coin - paid, paid - (long) won * r[BEAR]};
    }

    long player(int with, int aim, int seed, int coin, int what) {
        if (!isPlayer(with, aim, seed, coin) || !in(what, 0, 639) || what % 10 > 3) return NO;
        return outcome(with, aim, seed, coin, what / 10)[what % 10];
    }

    int most(int with, int aim, int seed, int coin, int many) {
        if (!isPlayer(with, aim, seed, coin) || !in(many, 0, 6)) return -2;
        int best = 0;
        for (int let = 63; let >= 0; let--) {
            if (Integer.bitCount(let) > many) continue;
            long had = outcome(with, aim, seed, coin, let)[0];
            if (had >= outcome(with, aim, seed, coin, best)[0]) best = let;
        }
        return best;
    }

    int test(int hours, int answers) {
        if (!in(hours, 1, 20) || !in(answers, 0, 333333)) return -2;
        String digits = String.format("%06d", answers);
        int[] t = new int[7];
        for (int k = 0; k < 6; k++) {
            t[k] = digits.charAt(k) - '0';
            if (t[k] > 3) return -2;
        }
        if (tests.size() == 6) return -4;
        t[6] = hours;
        tests.add(t);
        return tests.size() - 1;
    }

    int find(int set, int what) {
        if (!in(set, 0, (1 << stalls.size()) - 1) || !in(what, 0, 1)) return -2;
        int best = -1;
        int fewest = 1000000;
        for (int of = (1 << tests.size()) - 1; of >= 0; of--) {
            int hours = 0;
            List<int[]> used = new ArrayList<>();
            for (int t = 0; t < tests.size(); t++) {
                if ((of & 1 << t) != 0) {
                    used.add(tests.get(t));
                    hours += tests.get(t)[6];
                }
            }
            if (hours <= fewest && parted(set, used)) {
                best = of;
                fewest = hours;
            }
        }
        return best < 0 ? -1 : what == 0 ? best : fewest;
    }

    boolean parted(int set, List<int[]> used) {
        String[] byKind = new String[6];
        for (int i = 0; i < stalls.size(); i++) {
            if ((set & 1 << i) == 0) continue;
            int kind = stalls.get(i)[KIND];
            StringBuilder b = new StringBuilder("answers ");
            for (int[] t : used) b.append(t[kind]);
            byKind[kind] = b.toString();
        }
        for (int k = 0; k < 6; k++) {
            for (int l = 0; l < k; l++) {
                if (byKind[k] != null && byKind[k].equals(byKind[l])) return false;
            }
        }
        return true;
    }

    int year(int hours, int what) {
        if (!in(hours, 0, 199) || !in(what, 0, 2)) return -2;
        int[] best = {0, 0, 0};
        for (int set = (1 << stalls.size()) - 1; set >= 0; set--) {
            int found = 0;
            int taken = 0;
            for (int i = 0; i < stalls.size(); i++) {
                if ((set & 1 << i) != 0) {
                    found += seen(stalls.get(i));
                    taken += hours(stalls.get(i));
                }
            }
            if (taken > hours) continue;
            if (found > best[1] || found == best[1] && taken <= best[2]) best = new int[] {set, found, taken};
        }
        return best[what];
    }

    int make(int kind, int h, int bear, int odds, int left) {
        if (!in(kind, 0, 5) || !isHand(h) || !in(bear, 0, 999) || !in(odds, 0, 1000) || !in(left, -999, 99)) return -2;
        int[] hand = hands.get(h);
        long least = Long.MAX_VALUE;
        int best = -1;
        for (int size = 9; size >= 0; size--) {
            int[] r = {kind, 10, 10, size, 1, bear, 0, 0};
            int winning = winning(r, 0, hand, bestAim(r, hand));
            if (winning * 1000 / ways(hand) < odds) continue;
            for (int price = 99; price >= 1; price--) {
                long leaves = (long) price * ways(hand) - (long) winning * bear;
                if (leaves >= (long) left * ways(hand) && leaves <= least) {
                    least = leaves;
                    best = 100 * size + price;
                }
            }
        }
        return best;
    }

    /** Of all orders of tries, the least fail. */
    private int leastFail(int[] hand, int[] lacks, int coin, int fail) {
        int least = fail;
        for (int i = 0; i < stalls.size(); i++) {
            int left = coin - stalls.get(i)[PRICE];
            if (left >= 0) {
                int after = (int) ((long) fail * lacks[i] / ways(hand));
                least = Math.min(least, leastFail(hand, lacks, left, after));
            }
        }
        return least;
    }

    /** Only for coins that are few by the prices: all orders are gone through. */
    int walk(int h, int coin, int what) {
        if (!isHand(h) || !in(coin, 0, 200) || !in(what, 0, 1)) return -2;
        int[] hand = hands.get(h);
        int[] lacks = new int[stalls.size()];
        for (int i = 0; i < lacks.length; i++) {
            lacks[i] = ways(hand) - winning(stalls.get(i), stalls.get(i)[BOOT], hand, bestAim(stalls.get(i), hand));
        }
        int least = leastFail(hand, lacks, coin, 1000000);
        if (what == 0) return least;
        if (least == 1000000) return -1;
        for (int i = 0; i < lacks.length; i++) {
            int left = coin - stalls.get(i)[PRICE];
            int after = (int) (1000000L * lacks[i] / ways(hand));
            if (left >= 0 && leastFail(hand, lacks, left, after) == least) return i;
        }
        return -1;
    }

    /** How many orders walk() would go through, at most. */
    double ordersOfWalk(int coin) {
        double[] orders = new double[Math.max(0, coin) + 1];
        for (int c = 0; c < orders.length; c++) {
            orders[c] = 1;
            for (int[] r : stalls) {
                if (r[PRICE] <= c) orders[c] += orders[c - r[PRICE]];
            }
        }
        return orders[orders.length - 1];
    }

    int image() {
        keptStalls = new ArrayList<>();
        for (int[] r : stalls) keptStalls.add(r.clone());
        keptRule = rule;
        keptTries = tries.size();
        return keptTries;
    }

    int back() {
        if (keptStalls == null) return -3;
        for (int i = 0; i < keptStalls.size(); i++) stalls.set(i, keptStalls.get(i).clone());
        rule = keptRule;
        while (tries.size() > keptTries) tries.remove(tries.size() - 1);
        return keptTries;
    }

    int count(int what) {
        int won = 0;
        for (int[] t : tries) won += t[3];
        int[] counts = {stalls.size(), hands.size(), tries.size(), tests.size(), texts.size(), tape.size(), rule, won};
        return in(what, 0, 7) ? counts[what] : -2;
    }

    int sheet(int sheet, int sort, int n) {
        if (!in(sheet, 0, 3) || !in(sort, -1, 2)) return -2;
        if (sort == -1) {
            sheets[sheet] = null;
            return 1;
        }
        if (n > 40) return -2;
        if (n < 0) return -14;
        sheets[sheet] = new int[n];
        sorts[sheet] = sort;
        return 1;
    }

    int cell(int sheet, int i, int v) {
        if (!in(sheet, 0, 3)) return -2;
        if (sheets[sheet] == null) return -11;
        if (!in(i, 0, sheets[sheet].length - 1)) return -12;
        sheets[sheet][i] = sorts[sheet] == 0 ? (byte) v : sorts[sheet] == 1 ? (short) v : v;
        return 1;
    }

    int copy(int sheet, int i, int other, int j, int n) {
        if (!in(sheet, 0, 3) || !in(other, 0, 3)) return -2;
        if (sheets[sheet] == null || sheets[other] == null) return -11;
        if (sorts[sheet] != sorts[other]) return -13;
        if (n < 0 || i < 0 || j < 0) return -12;
        if ((long) i + n > sheets[sheet].length || (long) j + n > sheets[other].length) return -12;
        int[] moved = Arrays.copyOfRange(sheets[sheet], i, i + n);
        for (int k = 0; k < n; k++) sheets[other][j + k] = moved[k];
        return n;
    }

    int tries(int sheet, int sort, int from, int n) {
        if (!in(sheet, 0, 3) || !in(sort, 0, 2) || !in(n, 0, 10)) return -2;
        if (sheets[sheet] != null && sorts[sheet] != sort) return -13;
        if (sheets[sheet] == null) return -11;
        int[] row = sheets[sheet];
        int came = 0;
        for (int k = 0; k < n; k++) {
            long at = from + 4L * k;
            if (at < 0 || at + 3 >= row.length) return -12;
            int p = (int) at;
            if (shown(row[p], row[p + 1], row[p + 2], row[p + 3]) >= 0) came++;
        }
        return came;
    }

    int taken(int s, int k) {
        if (!in(k, 0, 5)) return -2;
        if (!isStall(s)) return -11;
        int[] under = {-1, 0, 0, 2, 0, 1};
        for (int kind = stalls.get(s)[KIND]; kind >= 0; kind = under[kind]) {
            if (kind == k) return stalls.get(s)[PRICE];
        }
        return -13;
    }
}
