import java.util.ArrayList;
import java.util.List;

/**
 * All short texts. The grammar of the document is walked as it stands there: what may come next is known by what is
 * left to come of the rules (a pushdown of rules, no reader); each way to go on is tried, down to some depth, and
 * each text so found is told to the class: where it faults, and if it does not, what a farm does by it. What is due
 * of a condition is worked out by folding its tokens, the signs that bind strongest first.
 */
public final class AllTexts {
    private static final int NONE = -1;
    private static final String[] TOKENS = {"do", "0", "3", "4", "9999", "10000", "when", "or", "and", "not", "wide",
        "lwide", "+", "-", "*", "/", "<", "=", ">", "(", ")", ";", "Do", "dog", "%"};
    private static final int[] USUAL = {0, 1, 2, 3, 6, 7, 8, 9, 10, 12, 14, 15, 16, 19, 20, 21, 22};
    private static final String[][] BENT = {{"not", "("}, {"do", "3", ";"}, {"wide", "*", "<", "and", "or", ")"}};
    private static final int CALLS_A_TEXT = 45;

    private static FootANight x = null;
    private static int calls = 512;
    private static int texts = 0;
    private static final int[] byFault = new int[4];
    private static int wrong = 0;
    private static long chance = 20261119L;

    /** What is left to come of the rules, the next one first; none may be changed. */
    private record Left(String rule, Left then) {
    }

    /** How a text may go on behind a token: what is left, for each way that the rules leave, and the token's fault. */
    private record Step(List<Left> ways, int fault) {
    }

    private static Left push(Left then, String... rules) {
        Left left = then;
        for (int i = rules.length - 1; i >= 0; i--) {
            left = new Left(rules[i], left);
        }
        return left;
    }

    private static boolean isNumber(String token) {
        return token.length() <= 4 && token.charAt(0) >= '0' && token.charAt(0) <= '9';
    }

    private static boolean isName(String token) {
        return List.of("wide", "lwide", "rwide", "dog").contains(token);
    }

    private static boolean fits(String rule, String token) {
        switch (rule) {
            case "DOING":
            case "PART":
            case "NUMBER": return isNumber(token);
            case "NAME": return isName(token);
            case "SIGN": return List.of("<", "=", ">").contains(token);
            case "FOLD": return List.of("+", "-").contains(token);
            case "LINE": return token.equals("do");
            case "OPEN": return token.equals("(");
            case "NOT": return token.equals("not");
            default: return rule.equals(token);
        }
    }

    private static List<Left> opened(Left left) {
        Left then = left.then();
        switch (left.rule()) {
            case "TEXT": return List.of(push(then, "LINE", "DOING", "WHEN", ";", "TEXT"), push(then));
            case "WHEN": return List.of(push(then, "when", "B"), push(then));
            case "B": return List.of(push(then, "A", "B+"));
            case "B+": return List.of(push(then, "or", "A", "B+"), push(then));
            case "A": return List.of(push(then, "C", "A+"));
            case "A+": return List.of(push(then, "and", "C", "A+"), push(then));
            case "C": return List.of(push(then, "E", "SIGN", "E"), push(then, "NOT", "C", "END"),
                push(then, "OPEN", "B", ")"));
            case "END": return List.of(push(then));
            case "E": return List.of(push(then, "T", "E+"));
            case "E+": return List.of(push(then, "FOLD", "T", "E+"), push(then));
            case "T": return List.of(push(then, "U", "T+"));
            case "T+": return List.of(push(then, "*", "U", "T+"), push(then, "/", "PART", "T+"), push(then));
            case "U": return List.of(push(then, "NUMBER"), push(then, "NAME"));
            default: return null;
        }
    }

    private static int count(Left left, String... rules) {
        int count = 0;
        for (Left at = left; at != null; at = at.then()) {
            count += List.of(rules).contains(at.rule()) ? 1 : 0;
        }
        return count;
    }

    private static int faultOf(Left left, String token, int lines) {
        switch (left.rule()) {
            case "DOING": return Integer.parseInt(token) > 3 ? 2 : 0;
            case "PART": return Integer.parseInt(token) == 0 ? 2 : 0;
            case "LINE": return lines >= 16 ? 3 : 0;
            case "OPEN":
            case "NOT": return count(left, ")", "END") > 8 ? 3 : 0;
            default: return 0;
        }
    }

    /** By this token from one way; each ends in THE END, which no token is. */
    private static void goOn(Left left, String token, int lines, List<Left> ways, int[] fault) {
        List<Left> deeper = opened(left);
        if (deeper == null) {
            if (fits(left.rule(), token)) {
                fault[0] = faultOf(left, token, lines);
                ways.add(left.then());
            }
            return;
        }
        for (Left way : deeper) {
            goOn(way, token, lines, ways, fault);
        }
    }

    private static Step step(List<Left> ways, String token, int lines) {
        List<Left> next = new ArrayList<>();
        int[] fault = {1};
        for (Left way : ways) {
            goOn(way, token, lines, next, fault);
        }
        return new Step(next, fault[0]);
    }

    private static boolean mayEnd(Left left) {
        List<Left> deeper = opened(left);
        if (deeper == null) {
            return left.rule().equals("THE END");
        }
        for (Left way : deeper) {
            if (mayEnd(way)) {
                return true;
            }
        }
        return false;
    }

    // ---- what is due of a condition

    /** As in freshObject(). */
    private static int numberOf(String token) {
        switch (token) {
            case "wide": return 10;
            case "lwide": return 7;
            case "rwide": return 3;
            case "dog": return 1;
            default: return Integer.parseInt(token);
        }
    }

    private static int fold(String sign, int a, int b) {
        switch (sign) {
            case "+": return a + b;
            case "-": return a - b;
            case "*": return a * b;
            case "/": return a / b;
            case "<": return a < b ? 1 : 0;
            case "=": return a == b ? 1 : 0;
            case ">": return a > b ? 1 : 0;
            case "and": return a * b;
            default: return Math.max(a, b);
        }
    }

    /** Without ( and ), from left to right: each of these signs and what stands at its sides become one number. */
    private static void foldAll(List<String> flat, String... signs) {
        for (int i = 1; i < flat.size() - 1; i++) {
            if (List.of(signs).contains(flat.get(i)) && !flat.get(i + 1).equals("not")) {
                int folded = fold(flat.get(i), Integer.parseInt(flat.get(i - 1)), Integer.parseInt(flat.get(i + 1)));
                flat.set(i - 1, "" + folded);
                flat.remove(i);
                flat.remove(i);
                i--;
            }
        }
    }

    private static int flatWorth(List<String> flat) {
        foldAll(flat, "*", "/");
        foldAll(flat, "+", "-");
        foldAll(flat, "<", "=", ">");
        for (int i = flat.size() - 2; i >= 0; i--) {
            if (flat.get(i).equals("not")) {
                flat.set(i, flat.get(i + 1).equals("0") ? "1" : "0");
                flat.remove(i + 1);
            }
        }
        foldAll(flat, "and");
        foldAll(flat, "or");
        return Integer.parseInt(flat.get(0));
    }

    private static boolean isSo(List<String> condition) {
        List<String> left = new ArrayList<>();
        for (String token : condition) {
            left.add(isName(token) || isNumber(token) ? "" + numberOf(token) : token);
        }
        int closed = left.indexOf(")");
        while (closed >= 0) {
            int open = left.subList(0, closed).lastIndexOf("(");
            List<String> inside = new ArrayList<>(left.subList(open + 1, closed));
            left.subList(open, closed + 1).clear();
            left.add(open, "" + flatWorth(inside));
            closed = left.indexOf(")");
        }
        return flatWorth(left) != 0;
    }

    private static int doneBy(List<String> tokens) {
        int from = 0;
        while (from < tokens.size()) {
            int behind = from + tokens.subList(from, tokens.size()).indexOf(";");
            List<String> line = tokens.subList(from, behind);
            if (line.size() == 2 || isSo(line.subList(3, line.size()))) {
                return Integer.parseInt(line.get(1));
            }
            from = behind + 1;
        }
        return 0;
    }

    // ---- the class is asked

    private static void due(String what, List<String> tokens, long got, long want) {
        if (got != want) {
            wrong++;
            if (wrong <= 20) {
                String text = String.join(" ", tokens);
                System.out.println(what + " of \"" + text + "\" answered " + got + ", due is " + want);
            }
        }
    }

    /** Farm 1 does by law 1, has a dog and 10 feet; its left neighbour has 7, its right one 3. */
    private static void freshObject() {
        x = new FootANight();
        x.ring(3);
        x.farm(0, 0, 7);
        x.farm(1, 3, 1);
        x.farm(2, 0, 3);
        x.farm(1, 1, 1);
        calls = 5;
    }

    private static boolean needsBlank(String before, String token) {
        return Character.isLetterOrDigit(before.charAt(before.length() - 1))
            && Character.isLetterOrDigit(token.charAt(0))
            && Character.isDigit(before.charAt(0)) == Character.isDigit(token.charAt(0));
    }

    /** The text, blanks where they must be or by chance; behind each token where it stands, and behind all its end. */
    private static String joined(List<String> tokens, int[] places) {
        StringBuilder text = new StringBuilder();
        for (int i = 0; i < tokens.size(); i++) {
            if (i > 0 && (needsBlank(tokens.get(i - 1), tokens.get(i)) || pick(3) == 0)) {
                text.append(pick(4) == 0 ? '\n' : ' ');
            }
            places[i] = text.length();
            text.append(tokens.get(i));
        }
        places[tokens.size()] = text.length();
        return text.toString();
    }

    private static int pick(int m) {
        chance = chance * 6364136223846793005L + 1442695040888963407L;
        return (int) Long.remainderUnsigned(chance >>> 33, m);
    }

    private static void put(String text) {
        for (int from = 0; from < text.length(); from += 20) {
            int[] five = new int[5];
            for (int i = 0; i < 20; i++) {
                five[i / 4] = five[i / 4] << 8 | (from + i < text.length() ? text.charAt(from + i) : ' ');
            }
            x.feed(five[0], five[1], five[2], five[3], five[4]);
            calls++;
        }
        x.end(text.length());
        calls++;
    }

    /** The text is told; its fault is at the token of this number, or there is none and its lines are so many. */
    private static void ask(List<String> tokens, int fault, int at, int lines) {
        if (calls + CALLS_A_TEXT > 512) {
            freshObject();
        }
        int[] places = new int[tokens.size() + 1];
        put(joined(tokens, places));
        due("text(1)", tokens, x.text(1), fault == 0 ? lines : NONE);
        due("fault(0)", tokens, x.fault(0), fault);
        due("fault(1)", tokens, x.fault(1), fault == 0 ? NONE : places[at]);
        calls += 3;
        texts++;
        byFault[fault]++;
        if (fault == 0) {
            due("of(1, 8)", tokens, x.of(1, 8), doneBy(tokens));
            calls++;
        }
    }

    private static void askAsItIs(List<String> tokens, List<Left> ways, int lines) {
        boolean ends = false;
        for (Left way : ways) {
            ends |= mayEnd(way);
        }
        ask(tokens, ends ? 0 : 1, tokens.size(), lines);
    }

    private static void walk(List<String> tokens, List<Left> ways, int lines, int deep) {
        askAsItIs(tokens, ways, lines);
        for (int i = 0; i < (deep > 3 ? USUAL.length : TOKENS.length) && deep > 0; i++) {
            String token = TOKENS[deep > 3 ? USUAL[i] : i];
            Step step = step(ways, token, lines);
            tokens.add(token);
            if (step.fault() != 0) {
                ask(tokens, step.fault(), tokens.size() - 1, 0);
            } else {
                walk(tokens, step.ways(), lines + (token.equals("do") ? 1 : 0), deep - 1);
            }
            tokens.remove(tokens.size() - 1);
        }
    }

    /** One long text by chance, up to its first fault or until the tape is full; told as it is now and then. */
    private static void wander() {
        List<String> tokens = new ArrayList<>();
        List<Left> ways = List.of(push(null, "TEXT", "THE END"));
        int lines = 0;
        int length = 0;
        // some texts go deep, some have many lines
        int bent = pick(BENT.length);
        while (true) {
            String[] some = pick(2) == 0 ? TOKENS : BENT[bent];
            String token = some[pick(some.length)];
            length += token.length() + 1;
            if (length > 400) {
                break;
            }
            Step step = step(ways, token, lines);
            tokens.add(token);
            if (step.fault() == 0) {
                ways = step.ways();
                lines += token.equals("do") ? 1 : 0;
                continue;
            }
            if (step.fault() > 1 || pick(60) == 0) {
                ask(tokens, step.fault(), tokens.size() - 1, 0);
                if (pick(3) == 0) {
                    return;
                }
            }
            tokens.remove(tokens.size() - 1);
            length -= token.length() + 1;
            if (pick(20) == 0) {
                askAsItIs(tokens, ways, lines);
            }
        }
        askAsItIs(tokens, ways, lines);
    }

    public static void main(String[] args) {
        int deep = args.length > 0 ? Integer.parseInt(args[0]) : 7;
        int wanders = args.length > 1 ? Integer.parseInt(args[1]) : 2000;
        walk(new ArrayList<>(), List.of(push(null, "TEXT", "THE END")), 0, deep);
        List<String> line = new ArrayList<>(List.of("do", "3", "when"));
        walk(line, List.of(push(null, "B", ";", "TEXT", "THE END")), 1, deep);
        for (int i = 0; i < wanders; i++) {
            wander();
        }
        System.out.println(texts + " texts, with fault 0, 1, 2, 3: " + byFault[0] + ", " + byFault[1] + ", "
            + byFault[2] + ", " + byFault[3] + "; " + wrong + " answers not as due");
        if (wrong > 0 || byFault[0] < 1000 || byFault[2] < 1000 || byFault[3] < 100) {
            System.exit(1);
        }
    }
}
