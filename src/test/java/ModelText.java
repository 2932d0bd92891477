import java.util.ArrayList;
import java.util.Arrays;
import java.util.List;

/**
 * A text for the model: judged token by token by states and a stack of what is open, worked out by
 * two stacks (values, signs by their rank), so without the grammar's own recursion.
 */
final class ModelText {
    static final List<String> NAMES = Arrays.asList("odds", "price", "bear", "seems", "won", "tries");
    static final List<String> KEYS = Arrays.asList("play", "skill", "leave");

    int fault = -1;
    private final List<List<String>> parts = new ArrayList<>();

    static ModelText read(String text) {
        ModelText t = new ModelText();
        List<String> tokens = new ArrayList<>();
        List<Integer> places = new ArrayList<>();
        split(text, tokens, places);
        int bad = t.judge(tokens);
        if (bad >= 0) t.fault = bad < places.size() ? places.get(bad) : text.length();
        return t;
    }

    private static void split(String text, List<String> tokens, List<Integer> places) {
        int i = 0;
        while (i < text.length()) {
            char c = text.charAt(i);
            if (c == 32 || c == 10) {
                i++;
                continue;
            }
            int from = i++;
            if (c >= 'a' && c <= 'z') {
                while (i < text.length() && text.charAt(i) >= 'a' && text.charAt(i) <= 'z') i++;
            } else if (c >= '0' && c <= '9') {
                while (i < text.length() && text.charAt(i) >= '0' && text.charAt(i) <= '9') i++;
            }
            tokens.add(text.substring(from, i));
            places.add(from);
        }
    }

    private static boolean isNumber(String t) {
        return t.matches("[0-9]{1,4}");
    }

    /**
     * The number of the token that can't stand there, or -1. What is open: '(' with whether a
     * comparison was there ahead of it, 'n' and '-'.
     */
    private int judge(List<String> tokens) {
        int at = 0;
        for (String key : KEYS) {
            if (at >= tokens.size() || !tokens.get(at).equals(key)) return at;
            at++;
            int from = at;
            StringBuilder open = new StringBuilder();
            boolean wantsValue = true;
            boolean mayNot = true;
            boolean compared = false;
            boolean ended = false;
            while (!ended) {
                if (at >= tokens.size()) return at;
                String t = tokens.get(at);
                int last = open.length() - 1;
                if (wantsValue) {
                    boolean opens = t.equals("(") || t.equals("-") || t.equals("not");
                    if (opens && open.length() == 5) return at;
                    if (t.equals("not")) {
                        if (!mayNot) return at;
                        open.append('n');
                    } else if (t.equals("-")) {
                        open.append('-');
                        mayNot = false;
                    } else if (t.equals("(")) {
                        open.append(compared ? 'C' : 'c');
                        mayNot = true;
                        compared = false;
                    } else if (isNumber(t) || NAMES.contains(t)) {
                        wantsValue = false;
                        closeMinus(open);
                    } else {
                        return at;
                    }
                } else if (t.equals("+") || t.equals("-") || t.equals("*")) {
                    wantsValue = true;
                    mayNot = false;
                } else if (t.equals("<") || t.equals("=")) {
                    if (compared) return at;
                    compared = true;
                    wantsValue = true;
                    mayNot = false;
                } else if (t.equals("and") || t.equals("or")) {
                    closeNot(open);
                    compared = false;
                    wantsValue = true;
                    mayNot = true;
                } else if (t.equals(")")) {
                    closeNot(open);
                    last = open.length() - 1;
                    if (last < 0) return at;
                    compared = open.charAt(last) == 'C';
                    open.setLength(last);
                    closeMinus(open);
                } else if (t.equals(";")) {
                    closeNot(open);
                    if (open.length() > 0) return at;
                    ended = true;
                } else {
                    return at;
                }
                at++;
            }
            parts.add(new ArrayList<>(tokens.subList(from, at - 1)));
        }
        return at < tokens.size() ? at : -1;
    }

    private static void closeMinus(StringBuilder open) {
        while (open.length() > 0 && open.charAt(open.length() - 1) == '-') open.setLength(open.length() - 1);
    }

    private static void closeNot(StringBuilder open) {
        while (open.length() > 0 && open.charAt(open.length() - 1) == 'n') open.setLength(open.length() - 1);
    }

    private static int rank(String sign) {
        switch (sign) {
            case "or": return 1;
            case "and": return 2;
            case "not": return 3;
            case "<": case "=": return 4;
            case "+": case "-": return 5;
            case "*": return 6;
            case "neg": return 7;
            default: return 0;
        }
    }

    int says(int key, int[] names) {
        List<Integer> values = new ArrayList<>();
        List<String> signs = new ArrayList<>();
        boolean wantsValue = true;
        for (String t : parts.get(key)) {
            if (isNumber(t)) {
                values.add(Integer.parseInt(t));
                wantsValue = false;
            } else if (NAMES.contains(t)) {
                values.add(names[NAMES.indexOf(t)]);
                wantsValue = false;
            } else if (t.equals("(") || t.equals("not")) {
                signs.add(t);
            } else if (t.equals("-") && wantsValue) {
                signs.add("neg");
            } else if (t.equals(")")) {
                work(values, signs, 1);
                signs.remove(signs.size() - 1);
            } else {
                work(values, signs, rank(t));
                signs.add(t);
                wantsValue = true;
            }
        }
        work(values, signs, 1);
        return values.get(0);
    }

    private static void work(List<Integer> values, List<String> signs, int rank) {
        while (!signs.isEmpty() && rank(signs.get(signs.size() - 1)) >= rank) {
            String sign = signs.remove(signs.size() - 1);
            int w = values.remove(values.size() - 1);
            if (sign.equals("not")) {
                values.add(w == 0 ? 1 : 0);
            } else if (sign.equals("neg")) {
                values.add(-w);
            } else {
                values.add(both(sign, values.remove(values.size() - 1), w));
            }
        }
    }

    private static int both(String sign, int v, int w) {
        switch (sign) {
            case "or": return (v == 0 ? 0 : 1) | (w == 0 ? 0 : 1);
            case "and": return (v == 0 ? 0 : 1) & (w == 0 ? 0 : 1);
            case "<": return v < w ? 1 : 0;
            case "=": return v == w ? 1 : 0;
            case "+": return v + w;
            case "-": return v - w;
            default: return v * w;
        }
    }
}
