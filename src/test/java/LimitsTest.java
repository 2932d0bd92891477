import java.lang.reflect.Method;
import java.lang.reflect.Modifier;
import java.util.ArrayList;
import java.util.Comparator;
import java.util.List;
import java.util.Random;

/** No call throws or fails to end, for any arguments in any state; refusals change nothing. */
public final class LimitsTest {
    private static final Checks CHECKS = new Checks("LimitsTest");
    private static final int[] EDGES = {
        Integer.MIN_VALUE, Integer.MIN_VALUE + 1, -1000, -999, -41, -6, -5, -2, -1, 0, 1, 2, 3, 4, 5, 6, 7, 8, 9, 10, 19, 20, 39,
        40, 41, 60, 63, 64, 99, 100, 119, 199, 200, 201, 255, 256, 639, 640, 999, 1000, 1001, 1010, 1919, 1920, 2000, 9999,
        10000, 99999, 100000, 333333, 999999, Integer.MAX_VALUE - 1, Integer.MAX_VALUE,
    };

    public static void main(String[] args) throws Exception {
        List<Method> calls = new ArrayList<>();
        for (Method m : ThreeBalls.class.getDeclaredMethods()) {
            if (Modifier.isPublic(m.getModifiers())) calls.add(m);
        }
        calls.sort(Comparator.comparing(Method::getName));
        for (int seed = 0; seed < 400; seed++) {
            anyCalls(new ThreeBalls(), calls, new Random(seed));
            anyCalls(Greens.some(), calls, new Random(seed));
            anyCalls(Greens.full(), calls, new Random(seed));
        }
        farArguments(calls);
        dearestCalls();
        CHECKS.end();
    }

    private static void anyCalls(ThreeBalls x, List<Method> calls, Random random) throws Exception {
        for (int i = 0; i < 300; i++) {
            Method m = calls.get(random.nextInt(calls.size()));
            Object[] given = new Object[m.getParameterCount()];
            for (int k = 0; k < given.length; k++) {
                int v = random.nextInt(3) == 0 ? EDGES[random.nextInt(EDGES.length)] : random.nextInt(5);
                if (m.getParameterTypes()[k] == long.class) {
                    given[k] = random.nextInt(3) == 0 ? random.nextLong() : (Object) (long) v;
                } else {
                    given[k] = v;
                }
            }
            answers(m, x, given);
        }
    }

    private static void answers(Method m, ThreeBalls x, Object[] given) throws Exception {
        long answer = ((Number) m.invoke(x, given)).longValue();
        boolean isInt = m.getReturnType() == int.class;
        CHECKS.holds(m.getName() + " answers what it may: " + answer, isInt ? answer >= -260 : answer >= ThreeBalls.NO);
    }

    /** The farthest numbers in all places of each call, on greens in all states. */
    private static void farArguments(List<Method> calls) throws Exception {
        long[] far = {Long.MIN_VALUE, Long.MAX_VALUE, -1, 0, 1};
        for (Method m : calls) {
            int rows = 1;
            for (int k = 0; k < m.getParameterCount(); k++) rows *= far.length;
            for (int row = 0; row < rows; row++) {
                Object[] given = new Object[m.getParameterCount()];
                int left = row;
                for (int k = 0; k < given.length; k++) {
                    long v = far[left % far.length];
                    left /= far.length;
                    int asInt = v == Long.MIN_VALUE ? Integer.MIN_VALUE : v == Long.MAX_VALUE ? Integer.MAX_VALUE : (int) v;
                    given[k] = m.getParameterTypes()[k] == long.class ? (Object) v : (Object) asInt;
                }
                answers(m, new ThreeBalls(), given);
                answers(m, Greens.single(), given);
                if (row % 7 == 0) answers(m, Greens.full(), given);
            }
        }
    }

    /** The calls that work most, 512 in all, on a full green. */
    private static void dearestCalls() {
        ThreeBalls x = new ThreeBalls();
        for (int i = 0; i < 8; i++) {
            x.stall(i % 6, 1010, 9, i + 1);
        }
        x.hand(0, 0, 5);
        Checks.read(x, "play ((((1+1*2<3 and 4=5 or 6<7)))) and tries<99 and won<99;skill 1;leave 1+2+3+4+5+6+7+8+9;");
        x.force(1);
        for (int i = 0; i < 80; i++) {
            CHECKS.holds("most", x.most(0, 1010, i, 9999, 6) == 0);
            CHECKS.holds("make", x.make(3, 0, 999, 0, -999) >= 0);
            CHECKS.holds("walk", x.walk(0, 200, 1) >= 0);
            CHECKS.holds("leaves", x.leaves(0, 0) != ThreeBalls.NO);
            CHECKS.holds("year", x.year(199, 0) > 0);
            CHECKS.holds("best", x.best(0, 0, 0) >= 0);
        }
    }
}
