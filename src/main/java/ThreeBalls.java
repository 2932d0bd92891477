import java.util.ArrayList;
import java.util.Arrays;

/** Three balls for a shilling: a green with stalls, hands, tries, players, an inspector. */
public final class ThreeBalls {
    public static final int NONE = -1, BAD = -2, STATE = -3, FULL = -4;
    public static final long NO = -4611686018427387904L;

    private static final int NONE_SUCH = -5;
    private static final int NOTHING = -11, OUTSIDE = -12, OTHER_SORT = -13, BELOW_NOUGHT = -14;

    private static final int STALLS = 8, HANDS = 6, TRIES = 60, TESTS = 6, TEXTS = 6, KINDS = 6;
    private static final int SHEETS = 4, SHEET_SIZE = 40;
    private static final int SIDE = 20;
    private static final int TRY_FIELDS = 5;
    private static final int TRY_STALL = 0, TRY_HAND = 1, TRY_AIM = 2, TRY_WON = 3, TRY_SET = 4;
    private static final int LOT_FACTOR = 48271, LOT_MODULUS = 2147483647;
    private static final int PLAYER_TRIES = 40, LET_TRIES = 6, LET_SETS = 1 << LET_TRIES;
    private static final int HAD = 0, WON = 1, COIN = 2, LOST = 3;
    private static final int PLAY = 0, SKILL = 1, LEAVE = 2;
    private static final int SURE_FAIL = 1000000, WALK_COIN = 200;
    private static final int MIDDLE = 1010;
    private static final int[] ANSWER_PLACES = {100000, 10000, 1000, 100, 10, 1};
    private static final String FIRST_RULE =
        "play price < odds + seems ; skill 99 < odds ; leave 2 ;";

    private final ArrayList<Stall> stalls = new ArrayList<Stall>();
    private final ArrayList<Hand> hands = new ArrayList<Hand>();
    private final ArrayList<Text> texts = new ArrayList<Text>();
    private int rule = 0;

    private final int[] tryRows = new int[TRIES * TRY_FIELDS];
    private int tryCount = 0;

    private final int[] testHours = new int[TESTS];
    private final int[] testAnswers = new int[TESTS];
    private int testCount = 0;

    private final Reader reader = new Reader();
    private final Image kept = new Image();
    private final int[][] sheets = new int[SHEETS][];
    private final int[] sheetSorts = new int[SHEETS];

    // Rows that calls write anew each time: the room for objects is shared by all calls.
    private final Grid grid = new Grid();
    private final int[] values = new int[Text.NAMES];
    private final int[] outcome = new int[4];
    private final long[] askedWhether = new long[PLAYER_TRIES];
    private final long[] goingOn = new long[PLAYER_TRIES];
    private final int[] ofStalls = new int[STALLS];
    private final int[] fails = new int[WALK_COIN + 1];

    public ThreeBalls() {
        reader.spell(FIRST_RULE);
        Text first = reader.read();
        if (first != null) {
            texts.add(first);
        }
    }

    // ---- stalls, hands

    public int stall(int kind, int peg, int size, int price) {
        if (!isIn(kind, 0, KINDS - 1) || !isPlace(peg) || !isIn(size, 0, 9) || !isIn(price, 1, 99)) {
            return BAD;
        }
        if (stalls.size() >= STALLS) {
            return FULL;
        }
        stalls.add(newStall(kind, peg, size, price));
        return stalls.size() - 1;
    }

    public int set(int stall, int what, int v) {
        Stall s = stallAt(stall);
        if (s == null || !isSettable(what, v)) {
            return NONE_SUCH;
        }
        int was = s.changeable(what);
        s.change(what, v);
        return was;
    }

    public int told(int stall, int what) {
        Stall s = stallAt(stall);
        if (s == null) {
            return NONE_SUCH;
        }
        switch (what) {
            case 0: return s.kind;
            case 1: return 100 * s.pegX + s.pegY;
            case 2: return s.size;
            case 3: return s.price;
            case 4: return s.bear;
            case 5: return s.seems;
            case 6: return s.boot;
            case 7: return s.gaffs();
            case 8: return lookHours(s);
            default: return NONE_SUCH;
        }
    }

    public int wins(int stall, int a, int b) {
        Stall s = stallAt(stall);
        if (s == null || !isIn(a, -40, 40) || !isIn(b, -40, 40)) {
            return BAD;
        }
        return asBit(s.pays(a, b, s.boot));
    }

    public int hand(int x, int y, int scatter) {
        if (!isIn(x, -5, 5) || !isIn(y, -5, 5) || !isIn(scatter, 0, 5)) {
            return BAD;
        }
        if (hands.size() >= HANDS) {
            return FULL;
        }
        hands.add(new Hand(x, y, scatter));
        return hands.size() - 1;
    }

    public long odds(int stall, int hand, int aim, int part) {
        Stall s = stallAt(stall);
        Hand h = handAt(hand);
        if (s == null || h == null || !isPlace(aim) || !isBit(part)) {
            return NO;
        }
        grid.fill(s, s.boot);
        return lowest(grid.winning(h, aim), h.ways, part);
    }

    public long best(int stall, int hand, int what) {
        Stall s = stallAt(stall);
        Hand h = handAt(hand);
        if (s == null || h == null || !isIn(what, 0, 2)) {
            return NO;
        }
        grid.fill(s, s.boot);
        int aim = grid.bestAim(h);
        if (what == 0) {
            return aim;
        }
        return lowest(grid.winning(h, aim), h.ways, what - 1);
    }

    private static Stall newStall(int kind, int peg, int size, int price) {
        switch (kind) {
            case 1: return new Heavy(kind, peg, size, price);
            case 2: return new Tight(kind, peg, size, price);
            case 3: return new Sprung(kind, peg, size, price);
            case 4: return new Drawn(kind, peg, size, price);
            case 5: return new Gaffed(kind, peg, size, price);
            default: return new Stall(kind, peg, size, price);
        }
    }

    private static boolean isSettable(int what, int v) {
        switch (what) {
            case Stall.PRICE: return isIn(v, 1, 99);
            case Stall.BEAR: return isIn(v, 0, 999);
            case Stall.SEEMS: return isIn(v, 0, 999);
            case Stall.BOOT: return isBit(v);
            default: return false;
        }
    }

    // ---- tries

    public int tried(int stall, int hand, int aim, int seed) {
        Stall s = stallAt(stall);
        Hand h = handAt(hand);
        if (s == null || h == null || !isPlace(aim) || !isSeed(seed)) {
            return BAD;
        }
        if (tryCount >= TRIES) {
            return FULL;
        }
        int won = asBit(lands(s, h, aim, firstLot(seed)));
        keepTry(stall, hand, aim, won);
        return won;
    }

    public int shown(int stall, int hand, int aim, int won) {
        if (!isTry(stall, hand, aim, won)) {
            return BAD;
        }
        if (tryCount >= TRIES) {
            return FULL;
        }
        keepTry(stall, hand, aim, won);
        return tryCount - 1;
    }

    public int tryTold(int t, int what) {
        if (!isIn(t, 0, tryCount - 1) || !isIn(what, 0, TRY_FIELDS - 1)) {
            return NONE;
        }
        return tryField(t, what);
    }

    public long setAll(int stall, int n, int part) {
        Stall s = stallAt(stall);
        if (s == null || !isIn(n, 1, 8) || !isBit(part)) {
            return NO;
        }
        grid.fill(s, 1 - part);
        long product = 1;
        int left = n;
        for (int t = tryCount - 1; t >= 0 && left > 0; t--) {
            if (tryField(t, TRY_STALL) == stall) {
                product *= waysOfTry(t);
                left--;
            }
        }
        return product;
    }

    private boolean isTry(int stall, int hand, int aim, int won) {
        return stallAt(stall) != null && handAt(hand) != null && isPlace(aim) && isBit(won);
    }

    private void keepTry(int stall, int hand, int aim, int won) {
        Stall s = stallAt(stall);
        int at = tryCount * TRY_FIELDS;
        if (s == null || !isIn(at, 0, tryRows.length - TRY_FIELDS)) {
            return;
        }
        tryRows[at + TRY_STALL] = stall;
        tryRows[at + TRY_HAND] = hand;
        tryRows[at + TRY_AIM] = aim;
        tryRows[at + TRY_WON] = won;
        tryRows[at + TRY_SET] = s.boot;
        tryCount++;
    }

    private int tryField(int t, int what) {
        int at = t * TRY_FIELDS + what;
        return isIn(at, 0, tryRows.length - 1) ? tryRows[at] : NONE;
    }

    /** Asks for the grid to be filled by the try's stall. */
    private int waysOfTry(int t) {
        Hand h = handAt(tryField(t, TRY_HAND));
        if (h == null) {
            return 1;
        }
        int winning = grid.winning(h, tryField(t, TRY_AIM));
        return tryField(t, TRY_WON) == 1 ? winning : h.ways - winning;
    }

    private static long firstLot(int seed) {
        return (seed + 1L) * LOT_FACTOR % LOT_MODULUS;
    }

    private static long nextLot(long lot) {
        return lot * LOT_FACTOR % LOT_MODULUS;
    }

    private static boolean lands(Stall s, Hand h, int aim, long lot) {
        long dx = remainder(lot, h.width) - h.scatter;
        long dy = remainder(quotient(lot, h.width), h.width) - h.scatter;
        int a = aim / 100 + h.leanX + (int) dx - s.pegX;
        int b = aim % 100 + h.leanY + (int) dy - s.pegY;
        return s.pays(a, b, s.boot);
    }

    // ---- worth, players

    public long worth(int stall, int hand, int aim, int what, int part) {
        Stall s = stallAt(stall);
        Hand h = handAt(hand);
        if (s == null || h == null || !isPlace(aim) || !isBit(what) || !isBit(part)) {
            return NO;
        }
        grid.fill(s, s.boot);
        int gain = what == 0 ? s.bear : s.seems;
        return lowest(grid.winning(h, aim) * gain - s.price * h.ways, h.ways, part);
    }

    public long leaves(int hand, int part) {
        Hand h = handAt(hand);
        if (h == null || !isBit(part)) {
            return NO;
        }
        long top = 0;
        for (int i = 0; i < stalls.size(); i++) {
            Stall s = stalls.get(i);
            top += s.price * h.ways - mostWinning(s, h) * s.bear;
        }
        return lowest(top, h.ways, part);
    }

    public int feed(int n, long bytes) {
        if (!isIn(n, 1, 8)) {
            return BAD;
        }
        if (reader.size + n > Reader.TAPE) {
            return FULL;
        }
        for (int k = 0; k < n; k++) {
            reader.put((int) (bytes >> (8 * k)) & 255);
        }
        return reader.size;
    }

    public int text() {
        if (texts.size() >= TEXTS) {
            return FULL;
        }
        Text read = reader.read();
        if (read == null) {
            return -100 - reader.fault;
        }
        texts.add(read);
        return texts.size() - 1;
    }

    public int force(int text) {
        if (!isIn(text, 0, texts.size() - 1)) {
            return BAD;
        }
        int was = rule;
        rule = text;
        return was;
    }

    public long says(int stall, int hand, int aim, int key, int had) {
        Stall s = stallAt(stall);
        Hand h = handAt(hand);
        if (s == null || h == null || !isPlace(aim) || !isBit(key) || !isIn(had, 0, 9999)) {
            return NO;
        }
        tellValues(s, thousandths(s, h, aim));
        if (key == SKILL) {
            return ruleSays(SKILL, 0, 0);
        }
        return ruleSays(PLAY, had / 100, had % 100);
    }

    public long player(int with, int aim, int seed, int coin, int what) {
        if (!isPlayer(with, aim, seed, coin) || !isIn(what, 0, 10 * LET_SETS - 1)) {
            return NO;
        }
        int asked = what % 10;
        Stall s = stallAt(with / 10);
        Hand h = handAt(with % 10);
        if (s == null || h == null || asked >= outcome.length) {
            return NO;
        }
        askPlayer(s, h, aim);
        playOut(s, coin, winningThrows(s, h, aim, seed) | what / 10);
        return outcome[asked];
    }

    public int most(int with, int aim, int seed, int coin, int many) {
        if (!isPlayer(with, aim, seed, coin) || !isIn(many, 0, LET_TRIES)) {
            return BAD;
        }
        Stall s = stallAt(with / 10);
        Hand h = handAt(with % 10);
        if (s == null || h == null) {
            return BAD;
        }
        askPlayer(s, h, aim);
        long winning = winningThrows(s, h, aim, seed);
        int mostHad = -1;
        int found = 0;
        for (int let = 0; let < LET_SETS; let++) {
            if (Integer.bitCount(let) <= many) {
                playOut(s, coin, winning | let);
                if (outcome[HAD] > mostHad) {
                    mostHad = outcome[HAD];
                    found = let;
                }
            }
        }
        return found;
    }

    private boolean isPlayer(int with, int aim, int seed, int coin) {
        return with >= 0 && stallAt(with / 10) != null && handAt(with % 10) != null
            && isPlace(aim) && isSeed(seed) && isIn(coin, 0, 9999);
    }

    /** What was asked of the rule for another player is forgotten. */
    private void askPlayer(Stall s, Hand h, int aim) {
        tellValues(s, thousandths(s, h, aim));
        Arrays.fill(askedWhether, 0);
        Arrays.fill(goingOn, 0);
    }

    /** Which of a player's throws win, as bits: they come by lots, whoever is let win. */
    private static long winningThrows(Stall s, Hand h, int aim, int seed) {
        long winning = 0;
        long lot = firstLot(seed);
        for (int t = 0; t < PLAYER_TRIES; t++) {
            if (lands(s, h, aim, lot)) {
                winning |= 1L << t;
            }
            lot = nextLot(lot);
        }
        return winning;
    }

    private void playOut(Stall s, int coin, long winning) {
        int had = 0;
        int won = 0;
        int left = coin;
        while (had < PLAYER_TRIES && left >= s.price && goesOn(won, had)) {
            won += (winning >> had & 1) == 1 ? 1 : 0;
            left -= s.price;
            had++;
        }
        outcome[HAD] = had;
        outcome[WON] = won;
        outcome[COIN] = left;
        outcome[LOST] = had * s.price - won * s.bear;
    }

    /** Sets of tries that are let come to the same few counts, so each is asked for once. */
    private boolean goesOn(int won, int had) {
        if (!isIn(had, 0, PLAYER_TRIES - 1)) {
            return false;
        }
        long bit = 1L << won;
        if ((askedWhether[had] & bit) == 0) {
            askedWhether[had] |= bit;
            goingOn[had] |= ruleSays(PLAY, won, had) != 0 ? bit : 0;
        }
        return (goingOn[had] & bit) != 0;
    }

    private int thousandths(Stall s, Hand h, int aim) {
        grid.fill(s, s.boot);
        return (int) quotient(1000L * grid.winning(h, aim), h.ways);
    }

    private int mostWinning(Stall s, Hand h) {
        grid.fill(s, s.boot);
        return grid.winning(h, grid.bestAim(h));
    }

    private void tellValues(Stall s, int odds) {
        values[0] = odds;
        values[1] = s.price;
        values[2] = s.bear;
        values[3] = s.seems;
    }

    /** Asks for the values of the stall to be told. */
    private int ruleSays(int key, int won, int had) {
        if (!isIn(rule, 0, texts.size() - 1)) {
            return 0;
        }
        values[4] = won;
        values[5] = had;
        return texts.get(rule).comesTo(key, values);
    }

    private int lookHours(Stall s) {
        tellValues(s, 0);
        return Math.max(1, Math.min(99, ruleSays(LEAVE, 0, 0)));
    }

    // ---- tests, years

    public int test(int hours, int answers) {
        if (!isIn(hours, 1, 20) || !areAnswers(answers)) {
            return BAD;
        }
        if (testCount >= TESTS) {
            return FULL;
        }
        testHours[testCount] = hours;
        testAnswers[testCount] = answers;
        testCount++;
        return testCount - 1;
    }

    public int find(int stalls, int what) {
        if (!isIn(stalls, 0, allStalls()) || !isBit(what)) {
            return BAD;
        }
        int found = NONE;
        int fewest = NONE;
        for (int set = 0; set < 1 << testCount; set++) {
            int hours = hoursOfTests(set);
            if ((found == NONE || hours < fewest) && areParted(stalls, set)) {
                found = set;
                fewest = hours;
            }
        }
        return what == 0 ? found : fewest;
    }

    public int year(int hours, int what) {
        if (!isIn(hours, 0, 199) || !isIn(what, 0, 2)) {
            return BAD;
        }
        for (int i = 0; i < stalls.size() && i < ofStalls.length; i++) {
            ofStalls[i] = lookHours(stalls.get(i));
        }
        int all = allStalls();
        int bestSet = 0;
        int mostFound = 0;
        int fewest = 0;
        for (int set = 1; set <= all; set++) {
            int taken = hoursOfLooks(set);
            int found = gaffsOf(set);
            boolean isBetter = found > mostFound || found == mostFound && taken < fewest;
            if (taken <= hours && isBetter) {
                bestSet = set;
                mostFound = found;
                fewest = taken;
            }
        }
        return what == 0 ? bestSet : what == 1 ? mostFound : fewest;
    }

    public int make(int kind, int hand, int bear, int odds, int left) {
        Hand h = handAt(hand);
        if (!isIn(kind, 0, KINDS - 1) || h == null || !isIn(bear, 0, 999)
            || !isIn(odds, 0, 1000) || !isIn(left, -999, 99)) {
            return BAD;
        }
        int found = NONE;
        int least = 0;
        for (int size = 0; size <= 9; size++) {
            int winning = mostWinning(newStall(kind, MIDDLE, size, 1), h);
            boolean isEnough = quotient(1000L * winning, h.ways) >= odds;
            for (int price = 1; price <= 99 && isEnough; price++) {
                // One hand has one bottom for all its odds, so tops alone can be compared.
                int leaving = price * h.ways - winning * bear;
                if (leaving >= left * h.ways && (found == NONE || leaving < least)) {
                    found = 100 * size + price;
                    least = leaving;
                }
            }
        }
        return found;
    }

    public int walk(int hand, int coin, int what) {
        Hand h = handAt(hand);
        if (h == null || !isIn(coin, 0, WALK_COIN) || !isBit(what)) {
            return BAD;
        }
        for (int i = 0; i < stalls.size() && i < ofStalls.length; i++) {
            ofStalls[i] = h.ways - mostWinning(stalls.get(i), h);
        }
        int least = leastFail(h, SURE_FAIL, coin);
        if (what == 0) {
            return least;
        }
        return least == SURE_FAIL ? NONE : firstOfWalk(h, coin, least);
    }

    public int image() {
        kept.isThere = true;
        kept.stallCount = stalls.size();
        kept.rule = rule;
        kept.tryCount = tryCount;
        for (int i = 0; i < stalls.size(); i++) {
            kept.keep(i, stalls.get(i));
        }
        return tryCount;
    }

    public int back() {
        if (!kept.isThere) {
            return STATE;
        }
        rule = kept.rule;
        tryCount = kept.tryCount;
        for (int i = 0; i < kept.stallCount && i < stalls.size(); i++) {
            kept.layBack(i, stalls.get(i));
        }
        return tryCount;
    }

    public int count(int what) {
        switch (what) {
            case 0: return stalls.size();
            case 1: return hands.size();
            case 2: return tryCount;
            case 3: return testCount;
            case 4: return texts.size();
            case 5: return reader.size;
            case 6: return rule;
            case 7: return triesWon();
            default: return BAD;
        }
    }

    private static boolean areAnswers(int answers) {
        if (!isIn(answers, 0, 999999)) {
            return false;
        }
        for (int kind = 0; kind < KINDS; kind++) {
            if (answerOf(answers, kind) > 3) {
                return false;
            }
        }
        return true;
    }

    private static int answerOf(int answers, int kind) {
        if (!isIn(kind, 0, ANSWER_PLACES.length - 1)) {
            return 0;
        }
        return (int) quotient(answers, ANSWER_PLACES[kind]) % 10;
    }

    private int allStalls() {
        return (1 << stalls.size()) - 1;
    }

    private int hoursOfTests(int set) {
        int hours = 0;
        for (int t = 0; t < testCount && t < testHours.length; t++) {
            hours += isOf(set, t) ? testHours[t] : 0;
        }
        return hours;
    }

    private boolean areParted(int stallSet, int testSet) {
        for (int i = 0; i < stalls.size(); i++) {
            for (int j = i + 1; j < stalls.size(); j++) {
                int one = stalls.get(i).kind;
                int other = stalls.get(j).kind;
                boolean areAsked = isOf(stallSet, i) && isOf(stallSet, j) && one != other;
                if (areAsked && !arePartedKinds(one, other, testSet)) {
                    return false;
                }
            }
        }
        return true;
    }

    private boolean arePartedKinds(int one, int other, int testSet) {
        for (int t = 0; t < testCount && t < testAnswers.length; t++) {
            int answers = testAnswers[t];
            if (isOf(testSet, t) && answerOf(answers, one) != answerOf(answers, other)) {
                return true;
            }
        }
        return false;
    }

    /** Asks for the hours of all stalls to be told. */
    private int hoursOfLooks(int set) {
        int hours = 0;
        for (int i = 0; i < stalls.size() && i < ofStalls.length; i++) {
            hours += isOf(set, i) ? ofStalls[i] : 0;
        }
        return hours;
    }

    private int gaffsOf(int set) {
        int gaffs = 0;
        for (int i = 0; i < stalls.size(); i++) {
            gaffs += isOf(set, i) ? stalls.get(i).gaffs() : 0;
        }
        return gaffs;
    }

    /**
     * A lesser fail never becomes a greater one by the same try, so the least fail of each
     * lesser coin is all that has to be known. Asks for what lacks at all stalls to be told.
     */
    private int leastFail(Hand h, int first, int coin) {
        if (!isIn(coin, 0, fails.length - 1)) {
            return first;
        }
        fails[0] = first;
        for (int c = 1; c <= coin; c++) {
            int least = fails[c - 1];
            for (int i = 0; i < stalls.size(); i++) {
                int before = c - stalls.get(i).price;
                if (isIn(before, 0, c - 1)) {
                    least = Math.min(least, failAfter(h, fails[before], i));
                }
            }
            fails[c] = least;
        }
        return fails[coin];
    }

    private int failAfter(Hand h, int fail, int stall) {
        return isIn(stall, 0, ofStalls.length - 1)
            ? (int) quotient((long) fail * ofStalls[stall], h.ways) : fail;
    }

    private int firstOfWalk(Hand h, int coin, int least) {
        for (int i = 0; i < stalls.size(); i++) {
            int left = coin - stalls.get(i).price;
            if (left >= 0 && leastFail(h, failAfter(h, SURE_FAIL, i), left) == least) {
                return i;
            }
        }
        return NONE;
    }

    private int triesWon() {
        int won = 0;
        for (int t = 0; t < tryCount; t++) {
            won += tryField(t, TRY_WON) == 1 ? 1 : 0;
        }
        return won;
    }

    // ---- the host

    public int sheet(int sheet, int sort, int n) {
        if (!isSheet(sheet) || !isIn(sort, -1, 2) || sort >= 0 && n > SHEET_SIZE) {
            return BAD;
        }
        if (sort >= 0 && n < 0) {
            return BELOW_NOUGHT;
        }
        sheets[sheet] = sort >= 0 ? new int[n] : null;
        sheetSorts[sheet] = sort;
        return 1;
    }

    public int cell(int sheet, int i, int v) {
        if (!isSheet(sheet)) {
            return BAD;
        }
        int[] row = sheets[sheet];
        if (row == null) {
            return NOTHING;
        }
        if (!isIn(i, 0, row.length - 1)) {
            return OUTSIDE;
        }
        row[i] = ofSort(sheetSorts[sheet], v);
        return 1;
    }

    public int copy(int sheet, int i, int other, int j, int n) {
        if (!isSheet(sheet) || !isSheet(other)) {
            return BAD;
        }
        int[] from = sheets[sheet];
        int[] to = sheets[other];
        if (from == null || to == null) {
            return NOTHING;
        }
        if (sheetSorts[sheet] != sheetSorts[other]) {
            return OTHER_SORT;
        }
        if (!hasItems(from, i, n) || !hasItems(to, j, n)) {
            return OUTSIDE;
        }
        System.arraycopy(from, i, to, j, n);
        return n;
    }

    public int tries(int sheet, int sort, int from, int n) {
        if (!isSheet(sheet) || !isIn(sort, 0, 2) || !isIn(n, 0, 10)) {
            return BAD;
        }
        int[] row = sheets[sheet];
        // What is missing has no sort that could be another one.
        if (row == null) {
            return NOTHING;
        }
        if (sheetSorts[sheet] != sort) {
            return OTHER_SORT;
        }
        int came = 0;
        int at = from;
        for (int k = 0; k < n; k++) {
            if (!hasItems(row, at, 4)) {
                return OUTSIDE;
            }
            came += shown(row[at], row[at + 1], row[at + 2], row[at + 3]) >= 0 ? 1 : 0;
            at += 4;
        }
        return came;
    }

    public int taken(int stall, int k) {
        if (!isIn(k, 0, KINDS - 1)) {
            return BAD;
        }
        Stall s = stallAt(stall);
        if (s == null) {
            return NOTHING;
        }
        return isUnder(s, k) ? s.price : OTHER_SORT;
    }

    private static boolean isSheet(int sheet) {
        return isIn(sheet, 0, SHEETS - 1);
    }

    private static int ofSort(int sort, int v) {
        switch (sort) {
            case 0: return (byte) v;
            case 1: return (short) v;
            default: return v;
        }
    }

    private static boolean hasItems(int[] row, int i, int n) {
        return i >= 0 && n >= 0 && n <= row.length && i <= row.length - n;
    }

    private static boolean isUnder(Stall s, int kind) {
        switch (kind) {
            case 0: return true;
            case 1: return s instanceof Heavy;
            case 2: return s instanceof Tight;
            case 3: return s instanceof Sprung;
            case 4: return s instanceof Drawn;
            case 5: return s instanceof Gaffed;
            default: return false;
        }
    }

    // ---- for all

    private Stall stallAt(int i) {
        return isIn(i, 0, stalls.size() - 1) ? stalls.get(i) : null;
    }

    private Hand handAt(int i) {
        return isIn(i, 0, hands.size() - 1) ? hands.get(i) : null;
    }

    private static boolean isIn(int v, int least, int greatest) {
        return v >= least && v <= greatest;
    }

    private static boolean isPlace(int place) {
        return place >= 0 && place / 100 < SIDE && place % 100 < SIDE;
    }

    private static boolean isSeed(int seed) {
        return isIn(seed, 0, 99999);
    }

    private static boolean isBit(int v) {
        return v == 0 || v == 1;
    }

    private static boolean isOf(int set, int i) {
        return (set >> i & 1) == 1;
    }

    private static int asBit(boolean yes) {
        return yes ? 1 : 0;
    }

    private static long quotient(long v, long by) {
        return by == 0 ? 0 : v / by;
    }

    private static long remainder(long v, long by) {
        return by == 0 ? 0 : v % by;
    }

    private static long lowest(long top, long bottom, int part) {
        long divisor = commonDivisor(Math.abs(top), bottom);
        return quotient(part == 0 ? top : bottom, divisor);
    }

    private static long commonDivisor(long v, long other) {
        long one = v;
        long two = other;
        for (int i = 0; i < 100 && two != 0; i++) {
            long rest = one % two;
            one = two;
            two = rest;
        }
        return one;
    }

    /** A stall of the plain kind; the other kinds say where they pay by what they are under. */
    private static class Stall {
        static final int PRICE = 0, BEAR = 1, SEEMS = 2, BOOT = 3;

        final int kind;
        final int pegX;
        final int pegY;
        final int size;
        int price;
        int bear = 0;
        int seems = 0;
        int boot = 0;

        Stall(int kind, int peg, int size, int price) {
            this.kind = kind;
            this.pegX = peg / 100;
            this.pegY = peg % 100;
            this.size = size;
            this.price = price;
        }

        /** How it is set is told with the throw: tries ask how it would pay if it were set. */
        boolean pays(int a, int b, int boot) {
            return isWithin(a, b, size);
        }

        int gaffs() {
            return 0;
        }

        static boolean isWithin(int a, int b, int reach) {
            return a >= -reach && a <= reach && b >= -reach && b <= reach;
        }

        final int changeable(int what) {
            switch (what) {
                case PRICE: return price;
                case BEAR: return bear;
                case SEEMS: return seems;
                default: return boot;
            }
        }

        final void change(int what, int v) {
            switch (what) {
                case PRICE: price = v; break;
                case BEAR: bear = v; break;
                case SEEMS: seems = v; break;
                default: boot = v; break;
            }
        }
    }

    private static class Heavy extends Stall {
        Heavy(int kind, int peg, int size, int price) {
            super(kind, peg, size, price);
        }

        @Override
        boolean pays(int a, int b, int boot) {
            return isWithin(a, b, size / 2);
        }

        @Override
        int gaffs() {
            return 1;
        }
    }

    private static class Tight extends Stall {
        Tight(int kind, int peg, int size, int price) {
            super(kind, peg, size, price);
        }

        @Override
        boolean pays(int a, int b, int boot) {
            return super.pays(a, b, boot) && a >= 0;
        }

        @Override
        int gaffs() {
            return 1;
        }
    }

    private static final class Sprung extends Tight {
        Sprung(int kind, int peg, int size, int price) {
            super(kind, peg, size, price);
        }

        @Override
        boolean pays(int a, int b, int boot) {
            boolean isOff = boot == 1 ? a != 0 && b != 0 : a != 0 || b != 0;
            return isOff && super.pays(a, b, boot);
        }

        @Override
        int gaffs() {
            return super.gaffs() + 1;
        }
    }

    private static final class Drawn extends Stall {
        Drawn(int kind, int peg, int size, int price) {
            super(kind, peg, size, price);
        }

        @Override
        boolean pays(int a, int b, int boot) {
            return super.pays(a, b, boot) && (a + 2 * b + boot) % 3 == 0;
        }

        @Override
        int gaffs() {
            return 1;
        }
    }

    private static final class Gaffed extends Heavy {
        Gaffed(int kind, int peg, int size, int price) {
            super(kind, peg, size, price);
        }

        @Override
        boolean pays(int a, int b, int boot) {
            return boot == 1 ? a == 0 && super.pays(a, b, boot) : isWithin(a, b, size);
        }

        @Override
        int gaffs() {
            return super.gaffs() + 1 + boot;
        }
    }

    private static final class Hand {
        final int leanX;
        final int leanY;
        final int scatter;
        final int width;
        final int ways;

        Hand(int leanX, int leanY, int scatter) {
            this.leanX = leanX;
            this.leanY = leanY;
            this.scatter = scatter;
            this.width = 2 * scatter + 1;
            this.ways = width * width;
        }
    }

    /**
     * Where one stall pays, as sums of all that lies lower, so that the throws of a hand that
     * win are counted by four looks for each of the 400 aims.
     */
    private static final class Grid {
        // No stall pays farther than 9 from its peg; row and column 0 hold the empty sums.
        private static final int REACH = 9, LINE = 2 * REACH + 2;

        private final int[] sums = new int[LINE * LINE];
        private int pegX = 0;
        private int pegY = 0;

        void fill(Stall s, int boot) {
            pegX = s.pegX;
            pegY = s.pegY;
            for (int i = 1; i < LINE; i++) {
                int inLine = 0;
                for (int j = 1; j < LINE; j++) {
                    if (s.pays(i - 1 - REACH, j - 1 - REACH, boot)) {
                        inLine++;
                    }
                    sums[i * LINE + j] = sums[(i - 1) * LINE + j] + inLine;
                }
            }
        }

        int winning(Hand h, int aim) {
            int a = aim / 100 + h.leanX - pegX;
            int b = aim % 100 + h.leanY - pegY;
            int lowA = line(a - h.scatter);
            int lowB = line(b - h.scatter);
            int highA = line(a + h.scatter + 1);
            int highB = line(b + h.scatter + 1);
            return sum(highA, highB) - sum(lowA, highB) - sum(highA, lowB) + sum(lowA, lowB);
        }

        int bestAim(Hand h) {
            int most = -1;
            int found = 0;
            for (int y = 0; y < SIDE; y++) {
                for (int x = 0; x < SIDE; x++) {
                    int winning = winning(h, 100 * x + y);
                    if (winning > most) {
                        most = winning;
                        found = 100 * x + y;
                    }
                }
            }
            return found;
        }

        private static int line(int offset) {
            return Math.max(0, Math.min(LINE - 1, offset + REACH));
        }

        private int sum(int i, int j) {
            int at = i * LINE + j;
            return isIn(at, 0, sums.length - 1) ? sums[at] : 0;
        }
    }

    /** A text as it was read: its tokens, each behind what it works on. */
    private static final class Text {
        static final int NAMES = 6;
        // Tokens below this one are numbers of the text; signs stand above it by their bytes.
        static final int OTHER = 10000;
        static final int NEGATIVE = OTHER + 1;
        static final int FIRST_NAME = OTHER + 200;
        static final int OR = OTHER + 210, AND = OTHER + 211, NOT = OTHER + 212;

        private final int[] code;
        private final int[] stack;
        private final int skillAt;
        private final int leaveAt;

        Text(int[] code, int skillAt, int leaveAt) {
            this.code = code;
            this.stack = new int[code.length];
            this.skillAt = skillAt;
            this.leaveAt = leaveAt;
        }

        int comesTo(int key, int[] values) {
            int from = key == PLAY ? 0 : key == SKILL ? skillAt : leaveAt;
            int to = key == PLAY ? skillAt : key == SKILL ? leaveAt : code.length;
            int top = 0;
            for (int i = from; i >= 0 && i < to && i < code.length; i++) {
                top = step(code[i], top, values);
            }
            return top > 0 && stack.length > 0 ? stack[0] : 0;
        }

        private int step(int token, int top, int[] values) {
            int name = token - FIRST_NAME;
            if (token < OTHER) {
                return push(token, top);
            }
            if (name >= 0 && name < NAMES && name < values.length) {
                return push(values[name], top);
            }
            if (token == NEGATIVE || token == NOT) {
                return alter(token, top);
            }
            if (top < 2 || top > stack.length) {
                return top;
            }
            stack[top - 2] = joined(token, stack[top - 2], stack[top - 1]);
            return top - 1;
        }

        private int push(int v, int top) {
            if (top < 0 || top >= stack.length) {
                return top;
            }
            stack[top] = v;
            return top + 1;
        }

        private int alter(int token, int top) {
            if (top < 1 || top > stack.length) {
                return top;
            }
            int last = stack[top - 1];
            stack[top - 1] = token == NEGATIVE ? -last : last == 0 ? 1 : 0;
            return top;
        }

        private static int joined(int token, int v, int w) {
            switch (token) {
                case OTHER + '+': return v + w;
                case OTHER + '-': return v - w;
                case OTHER + '*': return v * w;
                case OTHER + '<': return v < w ? 1 : 0;
                case OTHER + '=': return v == w ? 1 : 0;
                case AND: return v != 0 && w != 0 ? 1 : 0;
                case OR: return v != 0 || w != 0 ? 1 : 0;
                default: return 0;
            }
        }
    }

    /** The tape, and how a text is read from it: first into tokens, then by the grammar. */
    private static final class Reader {
        static final int TAPE = 160;
        private static final int PLAY_KEY = Text.OTHER + 220, SKILL_KEY = Text.OTHER + 221;
        private static final int LEAVE_KEY = Text.OTHER + 222;
        // A wrong token stands nowhere, so the grammar finds its fault in due order.
        private static final int END = Text.OTHER + 300, WRONG = Text.OTHER + 301;
        private static final int OPENING = Text.OTHER + '(', CLOSING = Text.OTHER + ')';
        private static final int SEMICOLON = Text.OTHER + ';';
        private static final int PLUS = Text.OTHER + '+', MINUS = Text.OTHER + '-';
        private static final int TIMES = Text.OTHER + '*';
        private static final int LESS = Text.OTHER + '<', LIKE = Text.OTHER + '=';
        private static final int MOST_OPEN = 5;

        private final int[] tape = new int[TAPE];
        int size = 0;
        private final int[] tokens = new int[TAPE + 1];
        private final int[] places = new int[TAPE + 1];
        private int tokenCount = 0;
        private int next = 0;
        private final int[] code = new int[TAPE];
        private int codeSize = 0;
        int fault = -1;

        void put(int v) {
            if (size >= 0 && size < TAPE) {
                tape[size] = v;
                size++;
            }
        }

        void spell(String words) {
            for (int i = 0; i < words.length(); i++) {
                put(words.charAt(i));
            }
        }

        /** Empties the tape; null where there is a fault, which is then told. */
        Text read() {
            split();
            next = 0;
            codeSize = 0;
            fault = -1;
            readPart(PLAY_KEY);
            int skillAt = codeSize;
            readPart(SKILL_KEY);
            int leaveAt = codeSize;
            readPart(LEAVE_KEY);
            ask(END);
            size = 0;
            return fault >= 0 ? null : new Text(Arrays.copyOf(code, codeSize), skillAt, leaveAt);
        }

        private void split() {
            tokenCount = 0;
            int at = 0;
            for (int i = 0; i < TAPE && at < size; i++) {
                at = splitOne(at);
            }
            addToken(END, size);
        }

        private int splitOne(int at) {
            int c = byteAt(at);
            if (c == ' ' || c == '\n') {
                return at + 1;
            }
            int end = at + 1;
            if (isDigit(c)) {
                end = endOfDigits(at);
                addToken(end - at <= 4 ? numberToken(at, end) : WRONG, at);
            } else if (isLetter(c)) {
                end = endOfLetters(at);
                addToken(wordToken(at, end), at);
            } else {
                addToken(isSign(c) ? Text.OTHER + c : WRONG, at);
            }
            return end;
        }

        private void addToken(int token, int place) {
            if (tokenCount >= 0 && tokenCount <= TAPE) {
                tokens[tokenCount] = token;
                places[tokenCount] = place;
                tokenCount++;
            }
        }

        private int endOfDigits(int from) {
            int end = from;
            while (end < size && isDigit(byteAt(end))) {
                end++;
            }
            return end;
        }

        private int endOfLetters(int from) {
            int end = from;
            while (end < size && isLetter(byteAt(end))) {
                end++;
            }
            return end;
        }

        private int numberToken(int from, int end) {
            int number = 0;
            for (int i = from; i < end; i++) {
                number = number * 10 + byteAt(i) - '0';
            }
            return number;
        }

        private int wordToken(int from, int end) {
            if (isWord("odds", from, end)) return Text.FIRST_NAME;
            if (isWord("price", from, end)) return Text.FIRST_NAME + 1;
            if (isWord("bear", from, end)) return Text.FIRST_NAME + 2;
            if (isWord("seems", from, end)) return Text.FIRST_NAME + 3;
            if (isWord("won", from, end)) return Text.FIRST_NAME + 4;
            if (isWord("tries", from, end)) return Text.FIRST_NAME + 5;
            if (isWord("or", from, end)) return Text.OR;
            if (isWord("and", from, end)) return Text.AND;
            if (isWord("not", from, end)) return Text.NOT;
            if (isWord("play", from, end)) return PLAY_KEY;
            if (isWord("skill", from, end)) return SKILL_KEY;
            if (isWord("leave", from, end)) return LEAVE_KEY;
            return WRONG;
        }

        private boolean isWord(String word, int from, int end) {
            if (word.length() != end - from) {
                return false;
            }
            for (int i = 0; i < word.length(); i++) {
                if (word.charAt(i) != byteAt(from + i)) {
                    return false;
                }
            }
            return true;
        }

        private int byteAt(int i) {
            return i >= 0 && i < TAPE ? tape[i] : 0;
        }

        private static boolean isDigit(int c) {
            return c >= '0' && c <= '9';
        }

        private static boolean isLetter(int c) {
            return c >= 'a' && c <= 'z';
        }

        private static boolean isSign(int c) {
            switch (c) {
                case '(': case ')': case ';': case '+': case '-': case '*': case '<': case '=':
                    return true;
                default:
                    return false;
            }
        }

        private void readPart(int key) {
            ask(key);
            readAny(0);
            ask(SEMICOLON);
        }

        private void readAny(int open) {
            readEach(open);
            for (int i = 0; i < TAPE && takes(Text.OR); i++) {
                readEach(open);
                write(Text.OR);
            }
        }

        private void readEach(int open) {
            readNot(open);
            for (int i = 0; i < TAPE && takes(Text.AND); i++) {
                readNot(open);
                write(Text.AND);
            }
        }

        private void readNot(int open) {
            if (open < MOST_OPEN && takes(Text.NOT)) {
                readNot(open + 1);
                write(Text.NOT);
                return;
            }
            readSum(open);
            int sign = token();
            if (takes(LESS) || takes(LIKE)) {
                readSum(open);
                write(sign);
            }
        }

        private void readSum(int open) {
            readTerm(open);
            int sign = token();
            for (int i = 0; i < TAPE && (takes(PLUS) || takes(MINUS)); i++) {
                readTerm(open);
                write(sign);
                sign = token();
            }
        }

        private void readTerm(int open) {
            readOne(open);
            for (int i = 0; i < TAPE && takes(TIMES); i++) {
                readOne(open);
                write(TIMES);
            }
        }

        private void readOne(int open) {
            int token = token();
            if (isValue(token) && takes(token)) {
                write(token);
            } else if (open < MOST_OPEN && takes(MINUS)) {
                readOne(open + 1);
                write(Text.NEGATIVE);
            } else if (open < MOST_OPEN && takes(OPENING)) {
                readAny(open + 1);
                ask(CLOSING);
            } else {
                refuse();
            }
        }

        private static boolean isValue(int token) {
            return token < Text.OTHER
                || token >= Text.FIRST_NAME && token < Text.FIRST_NAME + Text.NAMES;
        }

        private int token() {
            return next >= 0 && next < tokenCount && next <= TAPE ? tokens[next] : END;
        }

        private boolean takes(int wanted) {
            if (fault >= 0 || token() != wanted) {
                return false;
            }
            next++;
            return true;
        }

        private void ask(int wanted) {
            if (!takes(wanted)) {
                refuse();
            }
        }

        /** Only the first fault counts: what is asked for behind it is missing because of it. */
        private void refuse() {
            if (fault < 0) {
                fault = next >= 0 && next < tokenCount && next <= TAPE ? places[next] : size;
            }
        }

        private void write(int token) {
            if (codeSize >= 0 && codeSize < TAPE) {
                code[codeSize] = token;
                codeSize++;
            }
        }
    }

    /** What back() lays back; one image at a time is kept. */
    private static final class Image {
        private static final int FIELDS = 4;

        boolean isThere = false;
        int stallCount = 0;
        int rule = 0;
        int tryCount = 0;
        private final int[] rows = new int[STALLS * FIELDS];

        void keep(int i, Stall s) {
            if (isIn(i, 0, STALLS - 1)) {
                for (int what = 0; what < FIELDS; what++) {
                    rows[i * FIELDS + what] = s.changeable(what);
                }
            }
        }

        void layBack(int i, Stall s) {
            if (isIn(i, 0, STALLS - 1)) {
                for (int what = 0; what < FIELDS; what++) {
                    s.change(what, rows[i * FIELDS + what]);
                }
            }
        }
    }
}
