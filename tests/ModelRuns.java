import java.math.BigInteger;
import java.util.ArrayDeque;
import java.util.ArrayList;
import java.util.Arrays;
import java.util.Collections;
import java.util.HashMap;
import java.util.List;
import java.util.Map;
import java.util.Random;
import java.util.Set;
import java.util.function.LongSupplier;

/** Runs of 512 calls by chance (with kept seeds), each answer held against a slow model of the document. */
public final class ModelRuns {
    private static final int RUNS = 240;
    private static final int CALLS = 512;

    /** The document said again, as slowly and as near to its words as can be. */
    private static final class Model {
        int n = 4;
        int state = 0;
        int night = 0;
        int moved = 0;
        int[] told = {20, 10, 5, 3, 5, 1, 10, 900, 300, 1};
        int[] width = new int[10];
        int[] law = new int[10];
        int[] family = new int[10];
        int[] dog = new int[10];
        long[] purse = new long[10];
        int[] hit = new int[10];
        int[] caught = new int[10];
        int[] eaten = new int[10];
        int[] wall = new int[10];
        int[] heavy = new int[10];
        int[] push = new int[10];
        int[] pusher = new int[10];
        int[] was = new int[10];
        List<List<String>> texts = new ArrayList<>(List.of(List.of(), List.of(), List.of(), List.of()));

        Model() {
            begin(4);
        }

        Model(Model m) {
            n = m.n;
            state = m.state;
            night = m.night;
            moved = m.moved;
            told = m.told.clone();
            width = m.width.clone();
            law = m.law.clone();
            family = m.family.clone();
            dog = m.dog.clone();
            purse = m.purse.clone();
            hit = m.hit.clone();
            caught = m.caught.clone();
            eaten = m.eaten.clone();
            wall = m.wall.clone();
            heavy = m.heavy.clone();
            push = m.push.clone();
            pusher = m.pusher.clone();
            was = m.was.clone();
            texts = new ArrayList<>(m.texts);
        }

        void begin(int farms) {
            n = farms;
            for (int f = 0; f < 10; f++) {
                family[f] = f;
            }
            Arrays.fill(width, 10);
            Arrays.fill(hit, 99);
            Arrays.fill(purse, 0);
            for (int[] part : new int[][] {law, dog, caught, wall, heavy, push}) {
                Arrays.fill(part, 0);
            }
            for (int[] part : new int[][] {eaten, pusher, was}) {
                Arrays.fill(part, -1);
            }
        }

        int worth(int w) {
            int sum = 0;
            for (int foot = 1; foot <= w; foot++) {
                sum += told[foot <= 10 ? 0 : foot <= 30 ? 1 : 2];
            }
            return sum;
        }

        int draw(int m) {
            state = state * 1664525 + 1013904223;
            return (int) ((state & 0xFFFFFFFFL) / 256 % m);
        }

        int mod(int f) {
            return (f + n) % n;
        }

        // ---- laws

        int does(int f) {
            if (width[f] == 0) {
                return 0;
            }
            List<String> line = new ArrayList<>();
            for (String token : texts.get(law[f])) {
                if (!token.equals(";")) {
                    line.add(token);
                    continue;
                }
                if (line.size() == 2 || either(line.subList(3, line.size()), f)) {
                    return Integer.parseInt(line.get(1));
                }
                line.clear();
            }
            return 0;
        }

        List<List<String>> parts(List<String> tokens, String by) {
            List<List<String>> all = new ArrayList<>();
            int open = 0;
            int from = 0;
            for (int i = 0; i < tokens.size(); i++) {
                open += tokens.get(i).equals("(") ? 1 : tokens.get(i).equals(")") ? -1 : 0;
                if (open == 0 && tokens.get(i).equals(by)) {
                    all.add(tokens.subList(from, i));
                    from = i + 1;
                }
            }
            all.add(tokens.subList(from, tokens.size()));
            return all;
        }

        boolean either(List<String> b, int f) {
            boolean any = false;
            for (List<String> a : parts(b, "or")) {
                boolean all = true;
                for (List<String> c : parts(a, "and")) {
                    all &= condition(c, f);
                }
                any |= all;
            }
            return any;
        }

        boolean condition(List<String> c, int f) {
            if (c.get(0).equals("not")) {
                return !condition(c.subList(1, c.size()), f);
            }
            if (c.get(0).equals("(")) {
                return either(c.subList(1, c.size() - 1), f);
            }
            for (int i = 1; i < c.size(); i++) {
                if (List.of("<", "=", ">").contains(c.get(i))) {
                    int a = sum(c.subList(0, i), f);
                    int b = sum(c.subList(i + 1, c.size()), f);
                    return c.get(i).equals("<") ? a < b : c.get(i).equals("=") ? a == b : a > b;
                }
            }
            throw new IllegalStateException("no comparison");
        }

        int sum(List<String> e, int f) {
            for (int i = e.size() - 1; i > 0; i--) {
                if (e.get(i).equals("+")) {
                    return sum(e.subList(0, i), f) + product(e.subList(i + 1, e.size()), f);
                }
                if (e.get(i).equals("-")) {
                    return sum(e.subList(0, i), f) - product(e.subList(i + 1, e.size()), f);
                }
            }
            return product(e, f);
        }

        int product(List<String> t, int f) {
            int last = t.size() - 1;
            int unit = unit(t.get(last), f);
            if (last == 0) {
                return unit;
            }
            int before = product(t.subList(0, last - 1), f);
            return t.get(last - 1).equals("*") ? before * unit : before / unit;
        }

        int unit(String u, int f) {
            int left = mod(f - 1);
            int right = mod(f + 1);
            switch (u) {
                case "wide": return width[f];
                case "lwide": return width[left];
                case "rwide": return width[right];
                case "gain": return worth(width[f] + told[9]) - worth(width[f]);
                case "loss": return worth(width[f]) - worth(width[f] - told[9]);
                case "night": return night;
                case "hit": return hit[f];
                case "dog": return dog[f];
                case "ldog": return dog[left];
                case "rdog": return dog[right];
                case "lkin": return family[f] == family[left] ? 1 : 0;
                case "rkin": return family[f] == family[right] ? 1 : 0;
                case "lwall": return wall[left];
                case "rwall": return wall[f];
                case "purse": return (int) purse[f];
                default: return Integer.parseInt(u);
            }
        }

        // ---- nights

        int nights(int many) {
            int before = moved;
            for (int i = 0; i < many; i++) {
                night();
            }
            return moved - before;
        }

        void night() {
            int[] does = new int[n];
            boolean[] lost = new boolean[n];
            for (int f = 0; f < n; f++) {
                does[f] = does(f);
            }
            for (int f = 0; f < n; f++) {
                if (does[f] < 2) {
                    continue;
                }
                int other = does[f] == 2 ? mod(f - 1) : mod(f + 1);
                int b = does[f] == 2 ? mod(f - 1) : f;
                if (wall[b] == 1 || told[9] == 0 || width[other] == 0) {
                    continue;
                }
                boolean stopped = false;
                if (does[other] == 1) {
                    stopped = draw(1000) < told[7];
                } else if (dog[other] == 1) {
                    stopped = draw(1000) < told[8];
                }
                if (stopped) {
                    caught[f]++;
                    purse[f] -= told[6];
                    push[b] = 0;
                    continue;
                }
                push[b]++;
                if (pusher[b] != f) {
                    push[b] = 1;
                }
                pusher[b] = f;
                if (push[b] > heavy[b]) {
                    push[b] = 0;
                    for (int foot = 0; foot < told[9] && width[other] > 0; foot++) {
                        width[other]--;
                        width[f]++;
                        moved++;
                    }
                    lost[other] = true;
                }
            }
            for (int f = 0; f < n; f++) {
                purse[f] += worth(width[f]);
                purse[f] -= does[f] >= 2 ? told[3] : 0;
                purse[f] -= does[f] == 1 ? told[4] : 0;
                purse[f] -= dog[f] == 1 ? told[5] : 0;
                hit[f] = lost[f] ? 0 : hit[f] == 99 ? 99 : hit[f] + 1;
                if (width[f] == 0 && eaten[f] == -1) {
                    eaten[f] = night;
                }
            }
            night++;
        }

        // ---- rows

        int[] row(int number) {
            int[] row = new int[n];
            for (int f = n - 1; f >= 0; f--) {
                row[f] = number % 4;
                number /= 4;
            }
            return row;
        }

        int number(int[] row) {
            int number = 0;
            for (int doing : row) {
                number = 4 * number + doing;
            }
            return number;
        }

        int chance(int b, int against, int[] row) {
            int c = row[against] == 1 ? 1000 - told[7] : dog[against] == 1 ? 1000 - told[8] : 1000;
            return c / (heavy[b] + 1);
        }

        int value(int[] row, int f) {
            int v = 0;
            v -= 1000 * (row[f] == 1 ? told[4] : row[f] == 0 ? 0 : told[3]);
            v -= 1000 * dog[f] * told[5];
            for (int g = 0; g < n; g++) {
                if (row[g] < 2) {
                    continue;
                }
                int against = row[g] == 2 ? mod(g - 1) : mod(g + 1);
                int b = row[g] == 2 ? mod(g - 1) : g;
                if (wall[b] == 1 || width[g] == 0 || width[against] == 0 || told[9] == 0) {
                    continue;
                }
                int c = chance(b, against, row);
                int d = Math.min(told[9], width[against]);
                if (g == f) {
                    v += c * (worth(width[f] + d) - worth(width[f])) - (1000 - c) * told[6];
                }
                if (against == f) {
                    v -= c * (worth(width[f]) - worth(width[f] - d));
                }
            }
            return v;
        }

        int value(int[] row, int f, int instead) {
            int[] other = row.clone();
            other[f] = instead;
            return value(other, f);
        }

        int reply(int[] row, int f) {
            int best = 0;
            for (int doing = 1; doing < 4; doing++) {
                if (value(row, f, doing) > value(row, f, best)) {
                    best = doing;
                }
            }
            return best;
        }

        int[] rests() {
            int count = 0;
            int first = -1;
            int most = -1;
            int alike = 0;
            long sumOfMost = 0;
            for (int number = 0; number < Math.pow(4, n); number++) {
                int[] row = row(number);
                boolean rests = true;
                long sum = 0;
                for (int f = 0; f < n && rests; f++) {
                    int mine = value(row, f);
                    sum += mine;
                    for (int doing = 0; doing < 4; doing++) {
                        rests &= value(row, f, doing) <= mine;
                    }
                }
                if (!rests) {
                    continue;
                }
                count++;
                first = first == -1 ? number : first;
                if (most == -1 || sum > sumOfMost) {
                    most = number;
                    sumOfMost = sum;
                }
                if (Arrays.stream(row).distinct().count() == 1) {
                    alike += 1 << row[0];
                }
            }
            return new int[] {count, first, most, alike};
        }

        int still() {
            for (int many = 0; many <= n; many++) {
                for (int set = 0; set < 1 << n; set++) {
                    if (Integer.bitCount(set) == many && holds(set)) {
                        return set;
                    }
                }
            }
            return -1;
        }

        boolean holds(int set) {
            int[] row = new int[n];
            for (int f = 0; f < n; f++) {
                row[f] = set >> f & 1;
            }
            for (int f = 0; f < n; f++) {
                if (row[f] == 0) {
                    int asleep = value(row, f);
                    if (value(row, f, 2) > asleep || value(row, f, 3) > asleep) {
                        return false;
                    }
                }
            }
            return true;
        }

        int[] walls(int k) {
            int[] best = null;
            for (int many = 0; many <= k; many++) {
                for (int set = 0; set < 1 << n; set++) {
                    if (Integer.bitCount(set) != many) {
                        continue;
                    }
                    Model built = new Model(this);
                    boolean can = true;
                    for (int b = 0; b < n; b++) {
                        if ((set >> b & 1) == 1) {
                            can &= wall[b] == 0;
                            built.wall[b] = 1;
                        }
                    }
                    if (can) {
                        int still = built.still();
                        int watchers = still == -1 ? 99 : Integer.bitCount(still);
                        if (best == null || watchers < best[1]) {
                            best = new int[] {set, watchers};
                        }
                    }
                }
            }
            return best;
        }

        boolean pact(int f, int p) {
            int[] asleep = new int[n];
            int[] alone = new int[n];
            int[] both = new int[n];
            alone[f] = 3;
            both[f] = 3;
            both[mod(f + 1)] = 2;
            BigInteger won = BigInteger.valueOf(value(alone, f) - value(asleep, f));
            BigInteger spared = BigInteger.valueOf(value(asleep, f) - value(both, f));
            return won.multiply(BigInteger.valueOf(1000 - p)).compareTo(spared.multiply(BigInteger.valueOf(p))) <= 0;
        }

        int pact(int f) {
            for (int p = 0; p < 1000; p++) {
                if (pact(f, p)) {
                    return p;
                }
            }
            return -1;
        }

        // ---- two

        private final Map<Integer, BigInteger[]> memo = new HashMap<>();

        long two(int k, int p, int w, int what) {
            Model m = new Model(this);
            m.wall[1] = 1;
            BigInteger[] best = m.best(k, p, w, width[0] + width[1]);
            return best[what].longValueExact();
        }

        BigInteger floor(BigInteger a, long by) {
            BigInteger[] parts = a.divideAndRemainder(BigInteger.valueOf(by));
            return parts[1].signum() < 0 ? parts[0].subtract(BigInteger.ONE) : parts[0];
        }

        BigInteger[] best(int k, int p, int w, int all) {
            if (k == 0) {
                return new BigInteger[] {BigInteger.ZERO, BigInteger.ZERO};
            }
            if (memo.containsKey(100 * k + w)) {
                return memo.get(100 * k + w);
            }
            BigInteger[] best = null;
            for (int doing : new int[] {0, 1, 3}) {
                width[0] = w;
                width[1] = all - w;
                int[] row = {doing, does(1)};
                BigInteger now = BigInteger.valueOf(1000L * value(row, 0));
                boolean can = wall[0] == 0 && told[9] > 0 && w > 0 && w < all;
                int c = can && doing == 3 ? chance(0, 1, row) : 0;
                int e = can && row[1] == 2 ? chance(0, 0, row) : 0;
                int d0 = Math.min(told[9], all - w);
                int d1 = Math.min(told[9], w);
                BigInteger mean = BigInteger.ZERO;
                int[] ways = {c * e, d0 - d1, c * (1000 - e), d0, (1000 - c) * e, -d1, (1000 - c) * (1000 - e), 0};
                for (int i = 0; i < 8; i += 2) {
                    BigInteger then = best(k - 1, p, w + ways[i + 1], all)[0];
                    mean = mean.add(then.multiply(BigInteger.valueOf(ways[i])));
                }
                BigInteger sum = now.add(floor(floor(mean, 1000000).multiply(BigInteger.valueOf(p)), 1000));
                if (best == null || sum.compareTo(best[0]) > 0) {
                    best = new BigInteger[] {sum, BigInteger.valueOf(doing)};
                }
            }
            memo.put(100 * k + w, best);
            return best;
        }

        // ---- mornings and thoughts

        int judged() {
            for (int f = 0; f < n; f++) {
                if (was[f] == -1) {
                    return -1;
                }
            }
            return judged(new int[n], 0);
        }

        /** All ways of all borders, left off where a farm's width does not come out. */
        int judged(int[] ways, int b) {
            if (b == n) {
                return ways[0] - ways[n - 1] == width[0] - was[0] ? Arrays.stream(ways).map(Math::abs).sum() : -1;
            }
            int best = -1;
            int far = wall[b] == 1 ? 0 : told[9];
            for (int way = -far; way <= far; way++) {
                ways[b] = way;
                if (b == 0 || way - ways[b - 1] == width[b] - was[b]) {
                    int found = judged(ways, b + 1);
                    if (found != -1 && (best == -1 || found < best)) {
                        best = found;
                    }
                }
            }
            return best;
        }

        int total(int[] part) {
            return Arrays.stream(part, 0, n).sum();
        }

        int eatenNow() {
            return (int) Arrays.stream(eaten, 0, n).filter(e -> e != -1).count();
        }

        /** All PURSES added behind d nights in thought, by FEET. */
        long[] pursesByFeet(int d) {
            long[] purses = new long[6];
            for (int feet = 0; feet <= 5; feet++) {
                Model thought = new Model(this);
                thought.told[9] = feet;
                thought.nights(d);
                purses[feet] = thought.allPurses();
            }
            return purses;
        }

        int feet(int d) {
            long[] purses = pursesByFeet(d);
            int best = 0;
            for (int feet = 1; feet <= 5; feet++) {
                if (purses[feet] > purses[best]) {
                    best = feet;
                }
            }
            return best;
        }

        long allPurses() {
            return Arrays.stream(purse, 0, n).sum();
        }

        int thought(int d, int what) {
            Model t = new Model(this);
            t.nights(d);
            return new int[] {Math.toIntExact(t.allPurses() - allPurses()), t.moved - moved, t.total(t.caught) - total(caught),
                t.eatenNow()}[what];
        }
    }

    /** What can stand where, as a machine with a stack: told apart from how a text is meant. */
    private static final class Checker {
        static final Set<String> NAMES = Set.of("wide", "lwide", "rwide", "gain", "loss", "night", "hit", "dog",
            "ldog", "rdog", "lkin", "rkin", "lwall", "rwall", "purse");
        final List<String> tokens = new ArrayList<>();
        int fault = 0;
        int place = -1;
        int lines = 0;
        private final ArrayDeque<String> open = new ArrayDeque<>();
        private String state = "line";

        Checker(String text) {
            int at = 0;
            while (fault == 0) {
                while (at < text.length() && (text.charAt(at) == 32 || text.charAt(at) == 10)) {
                    at++;
                }
                if (at == text.length()) {
                    if (!state.equals("line")) {
                        bad(1, at);
                    }
                    return;
                }
                String token = text.substring(at, at + 1);
                for (String all : new String[] {"[a-zA-Z]+", "[0-9]+"}) {
                    if (token.matches(all)) {
                        int to = at;
                        while (to < text.length() && text.substring(at, to + 1).matches(all)) {
                            to++;
                        }
                        token = text.substring(at, to);
                    }
                }
                step(token, at);
                tokens.add(token);
                at += token.length();
            }
        }

        private void bad(int why, int at) {
            fault = why;
            place = at;
        }

        private void step(String token, int at) {
            boolean number = token.matches("[0-9]{1,4}");
            boolean unit = number || NAMES.contains(token);
            if (state.equals("right") && !List.of("+", "-", "*", "/").contains(token)) {
                state = "behind";
                closeNots();
            }
            switch (state) {
                case "line":
                    go(token.equals("do"), "doing", at);
                    if (fault == 0 && ++lines == 17) {
                        bad(3, at);
                    }
                    break;
                case "doing":
                    go(number, "when", at);
                    if (fault == 0 && Integer.parseInt(token) > 3) {
                        bad(2, at);
                    }
                    break;
                case "when":
                    go(token.equals("when") || token.equals(";"), token.equals(";") ? "line" : "condition", at);
                    break;
                case "condition":
                    if (token.equals("not") || token.equals("(")) {
                        open.push(token);
                        if (open.size() == 9) {
                            bad(3, at);
                        }
                    } else {
                        go(unit, "left", at);
                    }
                    break;
                case "leftUnit":
                    go(unit, "left", at);
                    break;
                case "rightUnit":
                    go(unit, "right", at);
                    break;
                case "leftPart":
                case "rightPart":
                    go(number, state.substring(0, state.length() - 4), at);
                    if (fault == 0 && Integer.parseInt(token) == 0) {
                        bad(2, at);
                    }
                    break;
                case "left":
                    if (List.of("<", "=", ">").contains(token)) {
                        state = "rightUnit";
                        break;
                    }
                    sign(token, at);
                    break;
                case "right":
                    sign(token, at);
                    break;
                default:
                    behind(token, at);
                    break;
            }
        }

        private void go(boolean can, String to, int at) {
            if (!can) {
                bad(1, at);
            }
            state = to;
        }

        private void sign(String token, int at) {
            go(List.of("+", "-", "*", "/").contains(token), state + (token.equals("/") ? "Part" : "Unit"), at);
        }

        private void closeNots() {
            while (!open.isEmpty() && open.peek().equals("not")) {
                open.pop();
            }
        }

        private void behind(String token, int at) {
            if (token.equals("and") || token.equals("or")) {
                state = "condition";
            } else if (token.equals(")") && !open.isEmpty()) {
                open.pop();
                closeNots();
            } else {
                go(token.equals(";") && open.isEmpty(), "line", at);
            }
        }
    }

    // ---- runs

    private final Random random;
    private final int run;
    private final FootANight x = new FootANight();
    private Model m = new Model();
    private Model image = null;
    private final StringBuilder tape = new StringBuilder();
    private int fault = 0;
    private int place = -1;
    private final List<String> calls = new ArrayList<>();
    private static int wrong = 0;
    private static int asked = 0;
    private static final Map<String, Integer> kinds = new HashMap<>();

    private ModelRuns(int run) {
        this.run = run;
        random = new Random(run);
    }

    private boolean due(String call, long got, long want) {
        asked++;
        calls.add(call);
        kinds.merge(call.substring(0, call.indexOf('(')), 1, Integer::sum);
        if (got != want) {
            wrong++;
            System.out.println("run " + run + ", call " + calls.size() + ": " + call + " answered " + got
                + ", due is " + want);
        }
        return got == want;
    }

    private boolean due(String call, boolean got, boolean want) {
        return due(call, got ? 1 : 0, want ? 1 : 0);
    }

    /** Mostly within, now and then a step or far beyond. */
    private int any(int least, int most) {
        int way = random.nextInt(60);
        if (way == 0) {
            return least - 1;
        }
        if (way == 1) {
            return most + 1;
        }
        if (way == 2) {
            return random.nextInt();
        }
        if (way < 9) {
            return way % 2 == 0 ? least : most;
        }
        return least + random.nextInt(most - least + 1);
    }

    private static boolean in(int v, int least, int most) {
        return v >= least && v <= most;
    }

    private static final String[] NAMES = {"wide", "lwide", "rwide", "gain", "loss", "night", "hit", "dog", "ldog",
        "rdog", "lkin", "rkin", "lwall", "rwall", "purse"};

    private String pick(String... some) {
        return some[random.nextInt(some.length)];
    }

    private String unit() {
        int[] tops = {2, 6, 30, 100, 10000};
        return random.nextInt(3) == 0 ? "" + random.nextInt(tops[random.nextInt(5)]) : pick(NAMES);
    }

    private String sum() {
        StringBuilder s = new StringBuilder(unit());
        for (int i = random.nextInt(4); i > 1; i--) {
            String sign = pick("+", "-", "*", "/");
            s.append(pick("", " ")).append(sign).append(pick("", " ", "\n"));
            s.append(sign.equals("/") ? "" + (random.nextInt(40) == 0 ? 0 : 1 + random.nextInt(40)) : unit());
        }
        return s.toString();
    }

    private String condition(int depth) {
        int way = random.nextInt(depth > 0 ? 8 : 5);
        if (way < 5) {
            return sum() + pick("", " ") + pick("<", "=", ">", "<", ">") + sum();
        }
        if (way == 5) {
            return "not " + condition(depth - 1);
        }
        return "(" + either(depth - 1) + ")";
    }

    private String either(int depth) {
        StringBuilder s = new StringBuilder(condition(depth));
        for (int i = random.nextInt(4); i > 1; i--) {
            s.append(pick(" or ", " and ", " and\n")).append(condition(depth));
        }
        return s.toString();
    }

    private String someText() {
        StringBuilder s = new StringBuilder();
        int way = random.nextInt(30);
        int lines = way == 0 ? 15 + random.nextInt(4) : 1 + random.nextInt(4);
        for (int i = 0; i < lines; i++) {
            int doing = random.nextInt(60) == 0 ? 4 : random.nextInt(4);
            s.append("do ").append(doing);
            if (way != 0 && random.nextInt(3) != 0) {
                s.append(" when ").append(either(random.nextInt(random.nextInt(5) == 0 ? 12 : 3)));
            }
            s.append(pick(";", ";", "; ", " ;\n"));
        }
        if (random.nextInt(12) == 0) {
            String opening = pick("(", "not ", "not(", "(not ");
            int many = 1 + random.nextInt(10);
            s.append("do 1 when ");
            for (int i = 0; i < many; i++) {
                s.append(opening);
            }
            s.append("1=1");
            for (int i = 0; i < many && opening.contains("("); i++) {
                s.append(")");
            }
            s.append(";");
        }
        if (random.nextInt(4) == 0) {
            spoil(s);
        }
        return s.toString();
    }

    private void spoil(StringBuilder s) {
        int at = random.nextInt(s.length() + 1);
        switch (random.nextInt(4)) {
            case 0:
                s.insert(at, pick(" not ", " ( ", ")", ";", " 7 ", "12345", "X", " do ", " and ", "&", "\t", " when ",
                    "/", " wide ", "=", "" + (char) random.nextInt(256)));
                break;
            case 1:
                s.setLength(at);
                break;
            case 2:
                s.delete(at, Math.min(s.length(), at + 1 + random.nextInt(3)));
                break;
            default:
                s.insert(at, " ");
                break;
        }
    }

    private void feed(String five) {
        int[] v = new int[5];
        for (int i = 0; i < 20; i++) {
            v[i / 4] = v[i / 4] << 8 | (i < five.length() ? five.charAt(i) & 255 : 32);
        }
        boolean can = tape.length() + 20 <= 400;
        if (can) {
            tape.append(five).append(" ".repeat(20 - five.length()));
        }
        due("feed('" + five.replace('\n', '|') + "')", x.feed(v[0], v[1], v[2], v[3], v[4]), can ? tape.length() : -1);
    }

    private void end(int n) {
        boolean can = n >= 0 && n <= tape.length();
        if (can) {
            tape.setLength(n);
        }
        due("end(" + n + ")", x.end(n), can);
    }

    private void text(int k) {
        int want = -1;
        fault = 0;
        place = -1;
        if (in(k, 0, 3)) {
            Checker checker = new Checker(tape.toString());
            fault = checker.fault;
            place = checker.place;
            if (fault == 0) {
                m.texts.set(k, checker.tokens);
                want = checker.lines;
            }
        }
        due("text(" + k + ") of '" + tape.toString().replace('\n', '|') + "'", x.text(k), want);
        tape.setLength(0);
        due("fault(0)", x.fault(0), fault);
        due("fault(1)", x.fault(1), place);
    }

    private void newText() {
        end(0);
        String text = someText();
        int length = Math.min(400, text.length());
        for (int from = 0; from < length; from += 20) {
            feed(text.substring(from, Math.min(length, from + 20)));
        }
        if (random.nextInt(40) == 0) {
            feed(" ".repeat(20));
        }
        end(Math.min(length, tape.length()));
        text(any(0, 3));
    }

    private void tell() {
        int what;
        int v;
        int f = any(0, m.n - 1);
        switch (random.nextInt(8)) {
            case 0:
            case 1:
                what = any(0, 3);
                v = any(0, in(what, 0, 3) ? new int[] {60, 3, random.nextBoolean() ? 1 : 9, 1}[what] : 9);
                if (what == 0 && random.nextInt(3) == 0) {
                    v = random.nextInt(13);
                }
                boolean can = in(f, 0, m.n - 1) && in(what, 0, 3) && in(v, 0, new int[] {60, 3, 9, 1}[what]);
                if (can) {
                    new int[][] {m.width, m.law, m.family, m.dog}[what][f] = v;
                }
                due("farm(" + f + ", " + what + ", " + v + ")", x.farm(f, what, v), can);
                break;
            case 2:
                what = any(0, 1);
                v = any(0, what == 1 ? 3 : 1);
                can = in(f, 0, m.n - 1) && in(what, 0, 1) && in(v, 0, what == 1 ? 3 : 1);
                if (can) {
                    (what == 0 ? m.wall : m.heavy)[f] = v;
                    m.push[f] = 0;
                }
                due("border(" + f + ", " + what + ", " + v + ")", x.border(f, what, v), can);
                break;
            case 3:
                what = any(0, 9);
                int most = what == 7 || what == 8 ? 1000 : what == 9 ? 5 : 99;
                v = random.nextInt(3) == 0 ? any(0, Math.min(most, 12)) : any(0, most);
                can = in(what, 0, 9) && in(v, 0, most);
                if (can) {
                    m.told[what] = v;
                }
                due("set(" + what + ", " + v + ")", x.set(what, v), can);
                break;
            case 4:
                v = any(0, 60);
                can = in(f, 0, m.n - 1) && in(v, -1, 60);
                if (can) {
                    m.was[f] = v;
                }
                due("was(" + f + ", " + v + ")", x.was(f, v), can);
                break;
            case 5:
                v = random.nextInt();
                due("state(" + v + ")", x.state(v), m.state);
                m.state = v;
                break;
            case 6:
                if (random.nextInt(5) == 0) {
                    int n = random.nextBoolean() ? 2 + random.nextInt(3) : any(2, 10);
                    if (in(n, 2, 10)) {
                        m.begin(n);
                    }
                    due("ring(" + n + ")", x.ring(n), in(n, 2, 10));
                }
                break;
            default:
                newText();
                break;
        }
    }

    private void doings() {
        int n = random.nextInt(3) == 0 ? any(1, 99) : any(1, 4);
        boolean can = in(n, 1, 99) && m.night + n <= 9999;
        due("nights(" + n + ")", x.nights(n), can ? m.nights(n) : -1);
        due("state(0)", x.state(0), m.state);
        m.state = 0;
        due("state(now)", x.state(m.night * 7919), 0);
        m.state = m.night * 7919;
    }

    private void morning() {
        for (int f = 0; f < m.n; f++) {
            int v = Math.min(60, m.width[f]);
            m.was[f] = v;
            due("was(" + f + ", " + v + ")", x.was(f, v), true);
        }
        if (random.nextBoolean()) {
            int n = 1 + random.nextInt(2);
            due("nights(" + n + ")", x.nights(n), m.night + n <= 9999 ? m.nights(n) : -1);
        } else {
            for (int f = 0; f < m.n; f++) {
                int feet = Math.min(m.was[f], random.nextInt(3));
                m.was[f] -= feet;
                int right = (f + 1) % m.n;
                m.was[right] = Math.min(60, m.was[right] + feet);
                due("was(" + f + ", " + m.was[f] + ")", x.was(f, m.was[f]), true);
                due("was(" + right + ", " + m.was[right] + ")", x.was(right, m.was[right]), true);
            }
        }
        due("judged()", x.judged(), m.judged());
    }

    private void images() {
        boolean taken = random.nextInt(3) == 0;
        if (taken) {
            image = new Model(m);
        } else if (image != null) {
            m = new Model(image);
        }
        due("image(" + taken + ")", x.image(taken), image != null);
    }

    private void askPlain() {
        int f = any(0, m.n - 1);
        boolean has = in(f, 0, m.n - 1);
        int what;
        switch (random.nextInt(7)) {
            case 0:
                int w = any(0, 600);
                due("worth(" + w + ")", x.worth(w), in(w, 0, 600) ? m.worth(w) : -1);
                break;
            case 1:
                what = any(0, 8);
                int[] purses = Arrays.stream(m.purse).mapToInt(purse -> (int) purse).toArray();
                int[][] parts = {m.width, m.law, m.family, m.dog, purses, m.hit, m.caught, m.eaten};
                due("of(" + f + ", " + what + ")", x.of(f, what),
                    !has || !in(what, 0, 8) ? -100000000 : what == 8 ? m.does(f) : parts[what][f]);
                break;
            case 2:
                what = any(0, 3);
                int[][] stakes = {m.wall, m.heavy, m.push, m.pusher};
                due("stake(" + f + ", " + what + ")", x.stake(f, what), has && in(what, 0, 3) ? stakes[what][f] : -2);
                break;
            case 3:
                what = any(0, 19);
                int[] looks = {m.n, m.night, m.moved, m.total(m.width), m.eatenNow()};
                due("look(" + what + ")", x.look(what),
                    in(what, 0, 4) ? looks[what] : in(what, 10, 19) ? m.told[what - 10] : -1);
                break;
            case 4:
                due("judged()", x.judged(), m.judged());
                break;
            case 5:
                what = any(0, 1);
                due("fault(" + what + ")", x.fault(what), what == 0 ? fault : what == 1 ? place : -1);
                break;
            default:
                for (int each = 0; each < m.n; each++) {
                    due("of(" + each + ", 8)", x.of(each, 8), m.does(each));
                    due("of(" + each + ", 0)", x.of(each, 0), m.width[each]);
                    due("of(" + each + ", 4)", x.of(each, 4), (int) m.purse[each]);
                    due("of(" + each + ", 5)", x.of(each, 5), m.hit[each]);
                    due("stake(" + each + ", 2)", x.stake(each, 2), m.push[each]);
                }
                break;
        }
    }

    private void askDear() {
        int f = any(0, m.n - 1);
        boolean has = in(f, 0, m.n - 1);
        int rows = 1 << 2 * m.n;
        int row = any(0, rows - 1);
        switch (random.nextInt(9)) {
            case 0:
                due("value(" + row + ", " + f + ")", x.value(row, f),
                    has && in(row, 0, rows - 1) ? m.value(m.row(row), f) : -100000000);
                break;
            case 1:
                due("reply(" + row + ", " + f + ")", x.reply(row, f),
                    has && in(row, 0, rows - 1) ? m.reply(m.row(row), f) : -1);
                break;
            case 2:
                rests();
                break;
            case 3:
                due("still()", x.still(), m.still());
                break;
            case 4:
                int k = any(0, 2);
                if (m.n < 7 || k < 2 || random.nextInt(20) == 0) {
                    int[] walls = in(k, 0, 2) ? m.walls(k) : new int[] {-1, -1};
                    due("walls(" + k + ", 0)", x.walls(k, 0), walls[0]);
                    due("walls(" + k + ", 1)", x.walls(k, 1), walls[1]);
                    due("walls(" + k + ", 2)", x.walls(k, 2), -1);
                }
                break;
            case 5:
                int p = any(-1, 999);
                due("pact(" + f + ", " + p + ")", x.pact(f, p),
                    !has || !in(p, -1, 999) ? -1 : p == -1 ? m.pact(f) : m.pact(f, p) ? 1 : 0);
                due("pact(" + f + ", -1)", x.pact(f, -1), has ? m.pact(f) : -1);
                break;
            case 6:
                int d = random.nextInt(4) == 0 ? any(1, 60) : any(1, 9);
                due("feet(" + d + ")", x.feet(d), in(d, 1, 60) ? m.feet(d) : -1);
                break;
            case 7:
                d = any(1, 60);
                int what = any(0, 3);
                due("thought(" + d + ", " + what + ")", x.thought(d, what),
                    in(d, 1, 60) && in(what, 0, 3) ? m.thought(d, what) : -100000000);
                break;
            default:
                duel();
                break;
        }
    }

    private void rests() {
        if (m.n > 6) {
            due("rests(0)", x.rests(0), -1);
        } else if (m.n < 5 || random.nextInt(8) == 0) {
            int[] rests = m.rests();
            for (int what = -1; what < 5; what++) {
                due("rests(" + what + ")", x.rests(what), in(what, 0, 3) ? rests[what] : -1);
            }
        }
    }

    private void duel() {
        int all = m.total(m.width);
        int k = random.nextBoolean() ? any(1, 40) : any(1, 4);
        int p = random.nextBoolean() ? any(900, 999) : any(0, 999);
        int w = any(0, Math.min(all, 60));
        int what = any(0, 1);
        boolean can = m.n == 2 && all <= 60 && in(k, 1, 40) && in(p, 0, 999) && in(w, 0, all) && in(what, 0, 1);
        due("two(" + k + ", " + p + ", " + w + ", " + what + ")", x.two(k, p, w, what),
            can ? m.two(k, p, w, what) : -1);
        if (can) {
            due("two(" + k + ", " + p + ", " + w + ", other)", x.two(k, p, w, 1 - what), m.two(k, p, w, 1 - what));
        }
    }

    // ---- purses above what an int holds

    private static final long BOUND = 1L << 31;
    private static int torn = 0;

    private void tellFarm(int f, int what, int v) {
        new int[][] {m.width, m.law, m.family, m.dog}[what][f] = v;
        due("farm(" + f + ", " + what + ", " + v + ")", x.farm(f, what, v), true);
    }

    private void tellSet(int what, int v) {
        m.told[what] = v;
        due("set(" + what + ", " + v + ")", x.set(what, v), true);
    }

    private void tellPrices(int first, int next, int rest) {
        tellSet(0, first);
        tellSet(1, next);
        tellSet(2, rest);
    }

    private void pass(int n) {
        due("nights(" + n + ")", x.nights(n), m.night + n <= 9999 ? m.nights(n) : -1);
    }

    private long nightly() {
        Model t = new Model(m);
        t.nights(1);
        return t.allPurses() - m.allPurses();
    }

    /** Each second farm eats its right neighbour, who is made wide again: far more feet than were told. */
    private void growWide() {
        feed("do 3;");
        end(5);
        text(1);
        tellSet(9, 5);
        tellSet(3, 0);
        tellPrices(0, 0, 0);
        for (int f = 0; f < m.n; f += 2) {
            tellFarm(f, 1, 1);
        }
        while (m.total(m.width) < 2600) {
            for (int f = 0; f < m.n; f++) {
                if (m.width[f] < 60) {
                    tellFarm(f, 0, 60);
                }
            }
            pass(12);
        }
    }

    /** As many nights as come as near to the bound as each price lets. */
    private void growRich() {
        for (int price : new int[] {99, 10, 1}) {
            tellPrices(price, price, price);
            while (m.night < 9999) {
                long fit = nightly() > 0 ? (BOUND - 20000 - m.allPurses()) / nightly() : 0;
                int n = (int) Math.min(Math.min(99, 9999 - m.night), fit);
                if (n < 1) {
                    break;
                }
                pass(n);
            }
        }
    }

    private boolean tears(int d) {
        long[] purses = m.pursesByFeet(d);
        long most = Arrays.stream(purses).max().orElse(0);
        return Arrays.stream(purses).min().orElse(0) < BOUND && most >= BOUND;
    }

    private void askRich() {
        int d = 1;
        while (d < 60 && !tears(d)) {
            d++;
        }
        torn += tears(d) ? 1 : 0;
        due("feet(" + d + ")", x.feet(d), m.feet(d));
        int other = 1 + random.nextInt(60);
        due("feet(" + other + ")", x.feet(other), m.feet(other));
        due("thought(" + other + ", 0)", x.thought(other, 0), m.thought(other, 0));
    }

    private void goRich() {
        int n = 2 + 2 * random.nextInt(5);
        m.begin(n);
        due("ring(" + n + ")", x.ring(n), true);
        growWide();
        growRich();
        image = new Model(m);
        due("image(true)", x.image(true), true);
        while (calls.size() < CALLS - 60) {
            tellPrices(random.nextInt(100), random.nextInt(40), random.nextInt(3));
            for (int i = random.nextInt(4); i > 0; i--) {
                int f = random.nextInt(n);
                tellFarm(f, random.nextInt(2), random.nextInt(2));
                tellFarm((f + 1) % n, 0, 1 + random.nextInt(60));
            }
            askRich();
            if (random.nextInt(3) == 0) {
                newText();
                pass(1 + random.nextInt(4));
                for (int f = 0; f < n; f++) {
                    due("of(" + f + ", 4)", x.of(f, 4), (int) m.purse[f]);
                    due("of(" + f + ", 8)", x.of(f, 8), m.does(f));
                }
            }
            if (random.nextInt(2) == 0) {
                m = new Model(image);
                due("image(false)", x.image(false), true);
            }
        }
        if (calls.size() > CALLS) {
            throw new IllegalStateException(calls.size() + " calls");
        }
    }

    private void go() {
        if (run % 3 == 0) {
            m.begin(2);
            due("ring(2)", x.ring(2), true);
        }
        int before = wrong;
        while (calls.size() < CALLS - 60 && wrong - before < 3) {
            int way = random.nextInt(20);
            if (way < 8) {
                tell();
            } else if (way < 10) {
                doings();
            } else if (way < 14) {
                askPlain();
            } else if (way < 19) {
                askDear();
            } else if (random.nextInt(3) == 0) {
                morning();
            } else {
                images();
            }
        }
        if (wrong != before) {
            System.out.println(String.join("; ", calls));
        }
    }

    public static void main(String[] args) {
        int runs = args.length > 0 ? Integer.parseInt(args[0]) : RUNS;
        int first = args.length > 1 ? Integer.parseInt(args[1]) : 1;
        for (int run = first; run < first + runs && wrong < 20; run++) {
            new ModelRuns(run).go();
        }
        for (int run = first; run < first + runs / 10 && wrong < 20; run++) {
            new ModelRuns(run).goRich();
        }
        List<String> names = new ArrayList<>(kinds.keySet());
        Collections.sort(names);
        LongSupplier least = () -> kinds.values().stream().mapToInt(i -> i).min().orElse(0);
        System.out.println(asked + " answers, " + wrong + " of them not as due, of each call at least "
            + least.getAsLong() + ", of " + names.size() + " calls; " + torn + " with purses at both sides of an int");
        if (wrong != 0 || names.size() != 26 || torn == 0) {
            System.out.println(names);
            System.exit(1);
        }
    }
}
