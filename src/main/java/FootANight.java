import java.util.Arrays;

/** Farms in a ring whose border stakes creep by night. */
public final class FootANight {
    public static final int NONE = -1;

    private static final int NO_SUCH_NUMBER = NONE - 99999999;
    private static final int NO_SUCH_STAKE = NONE - 1;

    private static final int MOST_FARMS = 10;
    private static final int FARMS_AT_FIRST = 4;
    private static final int MOST_WIDTH = 60;
    private static final int WIDEST = 600;
    private static final int MOST_HIT = 99;
    private static final int LAST_NIGHT = 9999;
    private static final int MOST_NIGHTS = 99;
    private static final int MOST_THOUGHT = 60;
    private static final int MOST_TAPE = 400;
    private static final int TEXTS = 4;
    private static final int THOUSAND = 1000;

    // what a farm is asked for, in the order of of(); all but PURSE and DOES stand in Ring.lands
    private static final int WIDTH = 0;
    private static final int LAW = 1;
    private static final int FAMILY = 2;
    private static final int DOG = 3;
    private static final int PURSE = 4;
    private static final int HIT = 5;
    private static final int CAUGHT = 6;
    private static final int EATEN = 7;
    private static final int DOES = 8;
    // not asked for by of(): the width that was() tells
    private static final int BEFORE = 8;
    private static final int FARM_PARTS = 9;

    // what a border is asked for, in the order of stake()
    private static final int WALL = 0;
    private static final int HEAVY = 1;
    private static final int PUSH = 2;
    private static final int PUSHER = 3;
    private static final int STAKE_PARTS = 4;

    // what is told by set(), in its order
    private static final int FIRST = 0;
    private static final int NEXT = 1;
    private static final int REST = 2;
    private static final int WORK = 3;
    private static final int WATCHING = 4;
    private static final int DOGS = 5;
    private static final int FINE = 6;
    private static final int STOP = 7;
    private static final int BARK = 8;
    private static final int FEET = 9;
    private static final int SETTINGS = 10;

    private static final int SLEEP = 0;
    private static final int WATCH = 1;
    private static final int LEFT = 2;
    private static final int RIGHT = 3;
    private static final int DOINGS = 4;

    private static final int[] FARM_MOST = {MOST_WIDTH, 3, 9, 1};
    private static final int[] BORDER_MOST = {1, 3};
    private static final int[] SETTING_MOST = {99, 99, 99, 99, 99, 99, 99, 1000, 1000, 5};
    private static final int[] SETTING_AT_FIRST = {20, 10, 5, 3, 5, 1, 10, 900, 300, 1};

    private final Ring now = new Ring();
    private final Ring kept = new Ring();
    private final Ring dream = new Ring();
    private final Reader reader = new Reader();
    private final Counsel counsel = new Counsel();
    private final Duel duel = new Duel();
    private final int[] tape = new int[MOST_TAPE];
    private int tapeLength = 0;
    private int faultKind = 0;
    private int faultPlace = NONE;
    private boolean hasImage = false;

    public FootANight() {
    }

    public int state(int v) {
        int was = now.drawn;
        now.drawn = v;
        return was;
    }

    public boolean ring(int n) {
        if (n < 2 || n > MOST_FARMS) {
            return false;
        }
        now.begin(n);
        return true;
    }

    public boolean farm(int f, int what, int v) {
        if (!now.has(f) || !mayBe(FARM_MOST, what, v)) {
            return false;
        }
        now.lands[f][what] = v;
        return true;
    }

    public boolean border(int b, int what, int v) {
        if (!now.has(b) || !mayBe(BORDER_MOST, what, v)) {
            return false;
        }
        now.stakes[b][what] = v;
        now.stakes[b][PUSH] = 0;
        return true;
    }

    public boolean set(int what, int v) {
        if (!mayBe(SETTING_MOST, what, v)) {
            return false;
        }
        now.told[what] = v;
        return true;
    }

    private static boolean mayBe(int[] most, int what, int v) {
        return what >= 0 && what < most.length && v >= 0 && v <= most[what];
    }

    public int worth(int w) {
        return w < 0 || w > WIDEST ? NONE : now.worthOf(w);
    }

    public int feed(int a, int b, int c, int d, int e) {
        if (tapeLength + 20 > MOST_TAPE) {
            return NONE;
        }
        putBytes(a);
        putBytes(b);
        putBytes(c);
        putBytes(d);
        putBytes(e);
        return tapeLength;
    }

    private void putBytes(int number) {
        for (int shift = 24; shift >= 0 && tapeLength < MOST_TAPE; shift -= 8) {
            tape[tapeLength] = number >>> shift & 255;
            tapeLength++;
        }
    }

    public boolean end(int n) {
        if (n < 0 || n > tapeLength) {
            return false;
        }
        tapeLength = n;
        return true;
    }

    public int text(int k) {
        int length = tapeLength;
        tapeLength = 0;
        faultKind = 0;
        faultPlace = NONE;
        if (k < 0 || k >= TEXTS) {
            return NONE;
        }
        if (!reader.accepts(tape, length)) {
            faultKind = reader.fault;
            faultPlace = reader.place;
            return NONE;
        }
        now.laws[k].take(reader.code, reader.used);
        return reader.lines;
    }

    public int fault(int what) {
        if (what == 0) {
            return faultKind;
        }
        return what == 1 ? faultPlace : NONE;
    }

    public int of(int f, int what) {
        if (!now.has(f) || what < 0 || what > DOES) {
            return NO_SUCH_NUMBER;
        }
        switch (what) {
            case PURSE: return now.purseAsInt(f);
            case DOES: return now.does(f);
            default: return now.lands[f][what];
        }
    }

    public int stake(int b, int what) {
        if (!now.has(b) || what < 0 || what >= STAKE_PARTS) {
            return NO_SUCH_STAKE;
        }
        return now.stakes[b][what];
    }

    public int nights(int n) {
        if (n < 1 || n > MOST_NIGHTS || now.night + n > LAST_NIGHT) {
            return NONE;
        }
        int before = now.moved;
        now.pass(n);
        return now.moved - before;
    }

    public int value(int row, int f) {
        if (!now.has(f) || !now.hasRow(row)) {
            return NO_SUCH_NUMBER;
        }
        return Counsel.meanInRow(now, row, f);
    }

    public int reply(int row, int f) {
        if (!now.has(f) || !now.hasRow(row)) {
            return NONE;
        }
        return Counsel.bestDoing(now, row, f);
    }

    public int rests(int what) {
        if (now.n > Counsel.MOST_RESTING || what < 0 || what > 3) {
            return NONE;
        }
        counsel.findRests(now);
        switch (what) {
            case 0: return counsel.restCount;
            case 1: return counsel.restFirst;
            case 2: return counsel.restMost;
            default: return counsel.restAlike;
        }
    }

    public int still() {
        return counsel.fewestWatchers(now);
    }

    public int walls(int k, int what) {
        if (k < 0 || k > 2 || what < 0 || what > 1) {
            return NONE;
        }
        dream.copy(now);
        counsel.findWalls(dream, k);
        return what == 0 ? counsel.wallSet : counsel.wallWatchers;
    }

    public int pact(int f, int patience) {
        if (!now.has(f) || patience < NONE || patience >= THOUSAND) {
            return NONE;
        }
        if (patience == NONE) {
            return Counsel.leastPatience(now, f);
        }
        return Counsel.pactHolds(now, f, patience) ? 1 : 0;
    }

    public long two(int k, int p, int w, int what) {
        int all = now.allWidths();
        if (now.n != 2 || all > MOST_WIDTH || w < 0 || w > all) {
            return NONE;
        }
        if (k < 1 || k > Duel.MOST_TO_COME || p < 0 || p >= THOUSAND || what < 0 || what > 1) {
            return NONE;
        }
        dream.copy(now);
        duel.prepare(dream, all);
        duel.play(k, p);
        return what == 0 ? duel.later[w] : duel.doing[w];
    }

    public boolean was(int f, int w) {
        if (!now.has(f) || w < NONE || w > MOST_WIDTH) {
            return false;
        }
        now.lands[f][BEFORE] = w;
        return true;
    }

    public int judged() {
        if (!now.allWereTold()) {
            return NONE;
        }
        int fewest = NONE;
        for (int first = -now.told[FEET]; first <= now.told[FEET]; first++) {
            int feet = now.feetIfFirstMoved(first);
            if (feet != NONE && (fewest == NONE || feet < fewest)) {
                fewest = feet;
            }
        }
        return fewest;
    }

    public int feet(int d) {
        if (d < 1 || d > MOST_THOUGHT) {
            return NONE;
        }
        int best = 0;
        long most = 0L;
        for (int feet = 0; feet <= SETTING_MOST[FEET]; feet++) {
            dream.copy(now);
            dream.told[FEET] = feet;
            dream.pass(d);
            long purses = dream.allPurses();
            if (feet == 0 || purses > most) {
                best = feet;
                most = purses;
            }
        }
        return best;
    }

    public int thought(int d, int what) {
        if (d < 1 || d > MOST_THOUGHT || what < 0 || what > 3) {
            return NO_SUCH_NUMBER;
        }
        dream.copy(now);
        dream.pass(d);
        switch (what) {
            case 0: return (int) (dream.allPurses() - now.allPurses());
            case 1: return dream.moved - now.moved;
            case 2: return dream.added(CAUGHT) - now.added(CAUGHT);
            default: return dream.countEaten();
        }
    }

    public boolean image(boolean taken) {
        if (taken) {
            kept.copy(now);
            hasImage = true;
        } else if (hasImage) {
            now.copy(kept);
        }
        return hasImage;
    }

    public int look(int what) {
        if (what >= 10 && what < 10 + SETTINGS) {
            return now.told[what - 10];
        }
        switch (what) {
            case 0: return now.n;
            case 1: return now.night;
            case 2: return now.moved;
            case 3: return now.allWidths();
            case 4: return now.countEaten();
            default: return NONE;
        }
    }

    /** All that is and was told but the tape and the fault, so that a copy of it is an image or a thought. */
    private static final class Ring {
        int n = 0;
        int drawn = 0;
        int night = 0;
        int moved = 0;
        final int[] told = new int[SETTINGS];
        final int[][] lands = new int[MOST_FARMS][FARM_PARTS];
        // PURSES stand apart from what else a farm has, for they may come above what an int holds
        final long[] purses = new long[MOST_FARMS];
        final int[][] stakes = new int[MOST_FARMS][STAKE_PARTS];
        final Law[] laws = new Law[TEXTS];
        private final int[] doing = new int[MOST_FARMS];
        private final boolean[] lost = new boolean[MOST_FARMS];
        private final int[] stack = new int[MOST_TAPE];

        Ring() {
            System.arraycopy(SETTING_AT_FIRST, 0, told, 0, SETTINGS);
            for (int k = 0; k < TEXTS; k++) {
                laws[k] = new Law();
            }
            begin(FARMS_AT_FIRST);
        }

        /** A new ring; the texts, all that set() tells, STATE, NIGHT and MOVED stay. */
        void begin(int farms) {
            n = farms;
            for (int f = 0; f < MOST_FARMS; f++) {
                int[] land = lands[f];
                Arrays.fill(land, 0);
                land[WIDTH] = 10;
                land[FAMILY] = f;
                land[HIT] = MOST_HIT;
                land[EATEN] = NONE;
                land[BEFORE] = NONE;
                purses[f] = 0L;
                Arrays.fill(stakes[f], 0);
                stakes[f][PUSHER] = NONE;
            }
        }

        void copy(Ring other) {
            n = other.n;
            drawn = other.drawn;
            night = other.night;
            moved = other.moved;
            System.arraycopy(other.told, 0, told, 0, SETTINGS);
            System.arraycopy(other.purses, 0, purses, 0, MOST_FARMS);
            for (int f = 0; f < MOST_FARMS; f++) {
                System.arraycopy(other.lands[f], 0, lands[f], 0, FARM_PARTS);
                System.arraycopy(other.stakes[f], 0, stakes[f], 0, STAKE_PARTS);
            }
            for (int k = 0; k < TEXTS; k++) {
                laws[k].take(other.laws[k].code, other.laws[k].length);
            }
        }

        /** As many borders as farms: a border's number is looked at by this, too. */
        boolean has(int f) {
            return f >= 0 && f < n;
        }

        boolean hasRow(int row) {
            return row >= 0 && row < 1 << 2 * n;
        }

        int leftOf(int f) {
            return f == 0 ? n - 1 : f - 1;
        }

        int rightOf(int f) {
            return f == n - 1 ? 0 : f + 1;
        }

        int worthOf(int w) {
            return told[FIRST] * Math.min(w, 10)
                + told[NEXT] * Math.max(0, Math.min(w, 30) - 10)
                + told[REST] * Math.max(0, w - 30);
        }

        int added(int part) {
            int sum = 0;
            for (int f = 0; f < n; f++) {
                sum += lands[f][part];
            }
            return sum;
        }

        long allPurses() {
            long sum = 0L;
            for (int f = 0; f < n; f++) {
                sum += purses[f];
            }
            return sum;
        }

        /** As texts see it and as it is told: an int, which wraps. */
        int purseAsInt(int f) {
            return (int) purses[f];
        }

        int allWidths() {
            return added(WIDTH);
        }

        int countEaten() {
            int count = 0;
            for (int f = 0; f < n; f++) {
                if (lands[f][EATEN] != NONE) {
                    count++;
                }
            }
            return count;
        }

        int does(int f) {
            if (lands[f][WIDTH] == 0) {
                return SLEEP;
            }
            Law law = laws[lands[f][LAW]];
            int top = 0;
            for (int i = 0; i < law.length; i++) {
                int step = law.code[i];
                if (step >= Law.TAKE) {
                    if (top > 0 && stack[top - 1] != 0) {
                        return step - Law.TAKE;
                    }
                    top = 0;
                } else if (step == Law.SIGNS + Reader.NOT) {
                    negate(top);
                } else if (step >= Law.SIGNS) {
                    top = join(step - Law.SIGNS, top);
                } else if (top < stack.length) {
                    stack[top] = step >= Law.NAMES ? seen(f, step - Law.NAMES) : step;
                    top++;
                }
            }
            return SLEEP;
        }

        private void negate(int top) {
            if (top > 0) {
                stack[top - 1] = stack[top - 1] == 0 ? 1 : 0;
            }
        }

        private int join(int sign, int top) {
            if (top < 2) {
                return top;
            }
            stack[top - 2] = Law.joined(sign, stack[top - 2], stack[top - 1]);
            return top - 1;
        }

        /** What a name in a text tells a farm; names are counted in the order of Reader.KEYWORDS. */
        private int seen(int f, int name) {
            int[] land = lands[f];
            int left = leftOf(f);
            int right = rightOf(f);
            int w = land[WIDTH];
            switch (name) {
                case 0: return w;
                case 1: return lands[left][WIDTH];
                case 2: return lands[right][WIDTH];
                case 3: return worthOf(w + told[FEET]) - worthOf(w);
                case 4: return worthOf(w) - worthOf(Math.max(0, w - told[FEET]));
                case 5: return night;
                case 6: return land[HIT];
                case 7: return land[DOG];
                case 8: return lands[left][DOG];
                case 9: return lands[right][DOG];
                case 10: return lands[left][FAMILY] == land[FAMILY] ? 1 : 0;
                case 11: return lands[right][FAMILY] == land[FAMILY] ? 1 : 0;
                case 12: return stakes[left][WALL];
                case 13: return stakes[f][WALL];
                default: return purseAsInt(f);
            }
        }

        void pass(int nights) {
            for (int i = 0; i < nights; i++) {
                for (int f = 0; f < n; f++) {
                    doing[f] = does(f);
                    lost[f] = false;
                }
                for (int f = 0; f < n; f++) {
                    if (doing[f] == LEFT || doing[f] == RIGHT) {
                        creep(f);
                    }
                }
                for (int f = 0; f < n; f++) {
                    settle(f);
                }
                night++;
            }
        }

        private void creep(int f) {
            int other = doing[f] == LEFT ? leftOf(f) : rightOf(f);
            int[] stake = stakes[doing[f] == LEFT ? other : f];
            int[] land = lands[f];
            if (stake[WALL] != 0 || told[FEET] == 0 || lands[other][WIDTH] == 0) {
                return;
            }
            if (stopsOne(other)) {
                land[CAUGHT]++;
                purses[f] -= told[FINE];
                stake[PUSH] = 0;
                return;
            }
            stake[PUSH] = stake[PUSHER] == f ? stake[PUSH] + 1 : 1;
            stake[PUSHER] = f;
            if (stake[PUSH] > stake[HEAVY]) {
                stake[PUSH] = 0;
                int gone = Math.min(told[FEET], lands[other][WIDTH]);
                lands[other][WIDTH] -= gone;
                land[WIDTH] += gone;
                moved += gone;
                lost[other] = true;
            }
        }

        private boolean stopsOne(int other) {
            if (doing[other] == WATCH) {
                return draw() < told[STOP];
            }
            return lands[other][DOG] != 0 && draw() < told[BARK];
        }

        private int draw() {
            drawn = 1664525 * drawn + 1013904223;
            return (drawn >>> 8) % THOUSAND;
        }

        private void settle(int f) {
            int[] land = lands[f];
            purses[f] += worthOf(land[WIDTH]) - costOf(f, doing[f]);
            land[HIT] = lost[f] ? 0 : Math.min(MOST_HIT, land[HIT] + 1);
            if (land[WIDTH] == 0 && land[EATEN] == NONE) {
                land[EATEN] = night;
            }
        }

        int costOf(int f, int done) {
            int cost = lands[f][DOG] != 0 ? told[DOGS] : 0;
            if (done == WATCH) {
                cost += told[WATCHING];
            } else if (done != SLEEP) {
                cost += told[WORK];
            }
            return cost;
        }

        boolean allWereTold() {
            for (int f = 0; f < n; f++) {
                if (lands[f][BEFORE] == NONE) {
                    return false;
                }
            }
            return true;
        }

        /** One border's way settles those of all others: the feet of all, or NONE if they can't be. */
        int feetIfFirstMoved(int first) {
            int sum = 0;
            int way = first;
            for (int b = 0; b < n; b++) {
                if (b > 0) {
                    way += lands[b][WIDTH] - lands[b][BEFORE];
                }
                int far = Math.abs(way);
                if (far > told[FEET] || far > 0 && stakes[b][WALL] != 0) {
                    return NONE;
                }
                sum += far;
            }
            return first - way == lands[0][WIDTH] - lands[0][BEFORE] ? sum : NONE;
        }
    }

    /**
     * A text as steps of a stack machine: numbers stand for themselves, then names, then signs by their kind of
     * token; each line ends with TAKE and its doing.
     */
    private static final class Law {
        static final int NAMES = 10000;
        static final int SIGNS = 10100;
        static final int TAKE = 10400;

        final int[] code = new int[MOST_TAPE];
        int length = 0;

        void take(int[] steps, int count) {
            System.arraycopy(steps, 0, code, 0, count);
            length = count;
        }

        static int joined(int sign, int a, int b) {
            switch (sign) {
                case '+': return a + b;
                case '-': return a - b;
                case '*': return a * b;
                case '/': return b == 0 ? 0 : a / b;
                case '<': return a < b ? 1 : 0;
                case '=': return a == b ? 1 : 0;
                case '>': return a > b ? 1 : 0;
                case Reader.AND: return a & b;
                default: return a | b;
            }
        }
    }

    /** Reads a text token by token: what may stand next is known, signs wait until both their sides are read. */
    private static final class Reader {
        // each with a blank behind it; the first five in the order of DO .. NOT, the others in that of Ring.seen
        static final String KEYWORDS =
            "do when or and not wide lwide rwide gain loss night hit dog ldog rdog lkin rkin lwall rwall purse ";
        static final int MOST_LINES = 16;
        static final int MOST_OPEN = 8;
        static final int MOST_DIGITS = 4;

        // kinds of tokens; a sign's kind is its own character, above 31
        static final int THE_END = 0;
        static final int NUMBER = 1;
        static final int NO_TOKEN = 2;
        static final int DO = 200;
        static final int WHEN = 201;
        static final int OR = 202;
        static final int AND = 203;
        static final int NOT = 204;
        static final int FIRST_NAME = 205;

        // what may stand next
        static final int A_LINE = 0;
        static final int A_DOING = 1;
        static final int BEHIND_DOING = 2;
        static final int A_CONDITION = 3;
        static final int A_UNIT = 4;
        static final int A_PART = 5;
        static final int BEHIND_UNIT = 6;
        static final int BEHIND_CONDITION = 7;

        final int[] code = new int[MOST_TAPE];
        int used = 0;
        int lines = 0;
        int fault = 0;
        int place = NONE;
        private final int[] bytes = new int[MOST_TAPE];
        private int length = 0;
        private int start = 0;
        private int behind = 0;
        private int kind = THE_END;
        private int number = 0;
        private int next = A_LINE;
        private int doing = SLEEP;
        private boolean compared = false;
        private final int[] signs = new int[MOST_TAPE];
        private int waiting = 0;
        private int open = 0;

        boolean accepts(int[] tape, int count) {
            System.arraycopy(tape, 0, bytes, 0, count);
            length = count;
            behind = 0;
            used = 0;
            lines = 0;
            fault = 0;
            place = NONE;
            next = A_LINE;
            waiting = 0;
            open = 0;
            advance();
            for (int i = 0; i < length && kind != THE_END; i++) {
                if (!readsToken()) {
                    return false;
                }
                advance();
            }
            return next == A_LINE || refuse(1);
        }

        private boolean refuse(int why) {
            fault = why;
            place = start;
            return false;
        }

        private boolean expect(int what) {
            next = what;
            return true;
        }

        private void emit(int step) {
            if (used < code.length) {
                code[used] = step;
                used++;
            }
        }

        private boolean readsToken() {
            switch (next) {
                case A_LINE: return readsDo();
                case A_DOING: return readsDoing();
                case BEHIND_DOING: return readsWhen();
                case A_CONDITION: return readsCondition();
                case A_UNIT: return readsUnit();
                case A_PART: return readsPart();
                case BEHIND_UNIT: return readsBehindUnit();
                default: return readsBehindCondition();
            }
        }

        private boolean readsDo() {
            if (kind != DO) {
                return refuse(1);
            }
            if (lines >= MOST_LINES) {
                return refuse(3);
            }
            lines++;
            return expect(A_DOING);
        }

        private boolean readsDoing() {
            if (kind != NUMBER) {
                return refuse(1);
            }
            if (number >= DOINGS) {
                return refuse(2);
            }
            doing = number;
            return expect(BEHIND_DOING);
        }

        private boolean readsWhen() {
            if (kind == WHEN) {
                return expect(A_CONDITION);
            }
            if (kind != ';') {
                return refuse(1);
            }
            // a line without a condition takes its doing as if by one that is so
            emit(1);
            emit(Law.TAKE + doing);
            return expect(A_LINE);
        }

        private boolean readsCondition() {
            if (kind != NOT && kind != '(') {
                compared = false;
                return readsUnit();
            }
            if (open >= MOST_OPEN) {
                return refuse(3);
            }
            open++;
            return putSign(A_CONDITION);
        }

        private boolean readsUnit() {
            if (kind == NUMBER) {
                emit(number);
            } else if (kind >= FIRST_NAME) {
                emit(Law.NAMES + kind - FIRST_NAME);
            } else {
                return refuse(1);
            }
            return expect(BEHIND_UNIT);
        }

        private boolean readsPart() {
            if (kind != NUMBER) {
                return refuse(1);
            }
            return number == 0 ? refuse(2) : readsUnit();
        }

        private boolean readsBehindUnit() {
            if (rankOf(kind) > rankOf('<')) {
                settleSigns(rankOf(kind));
                return putSign(kind == '/' ? A_PART : A_UNIT);
            }
            if (compared) {
                return readsBehindCondition();
            }
            if (rankOf(kind) < rankOf('<')) {
                return refuse(1);
            }
            compared = true;
            settleSigns(rankOf(kind));
            return putSign(A_UNIT);
        }

        private boolean readsBehindCondition() {
            if (kind == AND || kind == OR) {
                settleSigns(rankOf(kind));
                return putSign(A_CONDITION);
            }
            if (kind != ')' && kind != ';') {
                return refuse(1);
            }
            settleSigns(rankOf(OR));
            // what waits now is the latest ( that is open, or nothing
            boolean inside = waiting > 0;
            boolean closes = kind == ')';
            if (inside != closes) {
                return refuse(1);
            }
            if (closes) {
                waiting--;
                open--;
                return expect(BEHIND_CONDITION);
            }
            emit(Law.TAKE + doing);
            return expect(A_LINE);
        }

        private boolean putSign(int then) {
            if (waiting < signs.length) {
                signs[waiting] = kind;
                waiting++;
            }
            return expect(then);
        }

        /** The signs that wait and bind as strongly, or more so, have both their sides. */
        private void settleSigns(int rank) {
            while (waiting > 0 && rankOf(signs[waiting - 1]) >= rank) {
                waiting--;
                emit(Law.SIGNS + signs[waiting]);
                if (signs[waiting] == NOT) {
                    open--;
                }
            }
        }

        private static int rankOf(int sign) {
            switch (sign) {
                case OR: return 1;
                case AND: return 2;
                case NOT: return 3;
                case '<':
                case '=':
                case '>': return 4;
                case '+':
                case '-': return 5;
                case '*':
                case '/': return 6;
                default: return 0;
            }
        }

        /** The next token is at hand: its kind, where it starts and what is behind it. */
        private void advance() {
            start = behind;
            while (start < length && (bytes[start] == ' ' || bytes[start] == '\n')) {
                start++;
            }
            behind = start;
            if (start >= length) {
                kind = THE_END;
            } else if (isLetter(bytes[start])) {
                advanceWord();
            } else if (isDigit(bytes[start])) {
                advanceNumber();
            } else {
                behind = start + 1;
                kind = isSign(bytes[start]) ? bytes[start] : NO_TOKEN;
            }
        }

        private void advanceWord() {
            while (behind < length && isLetter(bytes[behind])) {
                behind++;
            }
            int word = keywordAtHand();
            kind = word == NONE ? NO_TOKEN : DO + word;
        }

        private void advanceNumber() {
            number = 0;
            while (behind < length && isDigit(bytes[behind])) {
                number = 10 * number + bytes[behind] - '0';
                behind++;
            }
            kind = behind - start > MOST_DIGITS ? NO_TOKEN : NUMBER;
        }

        private int keywordAtHand() {
            int word = 0;
            int from = 0;
            for (int i = 0; i < KEYWORDS.length(); i++) {
                if (KEYWORDS.charAt(i) == ' ') {
                    if (i - from == behind - start && standsAtHand(from)) {
                        return word;
                    }
                    word++;
                    from = i + 1;
                }
            }
            return NONE;
        }

        private boolean standsAtHand(int from) {
            for (int i = start; i < behind; i++) {
                if (KEYWORDS.charAt(from + i - start) != bytes[i]) {
                    return false;
                }
            }
            return true;
        }

        private static boolean isLetter(int c) {
            return c >= 'a' && c <= 'z' || c >= 'A' && c <= 'Z';
        }

        private static boolean isDigit(int c) {
            return c >= '0' && c <= '9';
        }

        private static boolean isSign(int c) {
            return c >= '(' && c <= '+' || c == '-' || c == '/' || c >= ';' && c <= '>';
        }
    }

    /** What a night is worth in the mean, and what farms would rather do. */
    private static final class Counsel {
        static final int MOST_RESTING = 6;
        static final int NONE_HOLDS = 99;

        int restCount = 0;
        int restFirst = NONE;
        int restMost = NONE;
        int restAlike = 0;
        int wallSet = 0;
        int wallWatchers = 0;
        // by farm, then by what the left neighbour, the farm, the right neighbour does
        private final int[][] means = new int[MOST_RESTING][DOINGS * DOINGS * DOINGS];
        private final int[][] bests = new int[MOST_RESTING][DOINGS * DOINGS];
        // sets of farms that would move a border out if that neighbour sleeps, or even if it watches
        private int leftIfAsleep = 0;
        private int leftIfWatched = 0;
        private int rightIfAsleep = 0;
        private int rightIfWatched = 0;

        static int digit(Ring r, int row, int f) {
            return row >> 2 * (r.n - 1 - f) & 3;
        }

        static int meanInRow(Ring r, int row, int f) {
            return mean(r, f, digit(r, row, r.leftOf(f)), digit(r, row, f), digit(r, row, r.rightOf(f)));
        }

        static int bestDoing(Ring r, int row, int f) {
            int left = digit(r, row, r.leftOf(f));
            int right = digit(r, row, r.rightOf(f));
            int best = SLEEP;
            int most = mean(r, f, left, SLEEP, right);
            for (int doing = 1; doing < DOINGS; doing++) {
                int found = mean(r, f, left, doing, right);
                if (found > most) {
                    best = doing;
                    most = found;
                }
            }
            return best;
        }

        /** VALUE of a row for a farm: only its neighbours' doings bear on it (in a ring of two these are one farm). */
        static int mean(Ring r, int f, int left, int own, int right) {
            int sum = -THOUSAND * r.costOf(f, own);
            int before = r.leftOf(f);
            if (own == LEFT) {
                sum += gain(r, before, f, before, left == WATCH);
            } else if (own == RIGHT) {
                sum += gain(r, f, f, r.rightOf(f), right == WATCH);
            }
            if (left == RIGHT) {
                sum -= loss(r, before, f, before, own == WATCH);
            }
            if (right == LEFT) {
                sum -= loss(r, f, f, r.rightOf(f), own == WATCH);
            }
            return sum;
        }

        private static int gain(Ring r, int border, int f, int other, boolean watched) {
            if (!canMove(r, border, f, other)) {
                return 0;
            }
            int w = r.lands[f][WIDTH];
            int d = Math.min(r.told[FEET], r.lands[other][WIDTH]);
            int c = chance(r, border, other, watched);
            return c * (r.worthOf(w + d) - r.worthOf(w)) - (THOUSAND - c) * r.told[FINE];
        }

        private static int loss(Ring r, int border, int f, int other, boolean watched) {
            if (!canMove(r, border, f, other)) {
                return 0;
            }
            int w = r.lands[f][WIDTH];
            int d = Math.min(r.told[FEET], w);
            return chance(r, border, f, watched) * (r.worthOf(w) - r.worthOf(w - d));
        }

        static boolean canMove(Ring r, int border, int f, int other) {
            return r.stakes[border][WALL] == 0 && r.told[FEET] > 0
                && r.lands[f][WIDTH] > 0 && r.lands[other][WIDTH] > 0;
        }

        static int chance(Ring r, int border, int against, boolean watched) {
            int through = THOUSAND;
            if (watched) {
                through -= r.told[STOP];
            } else if (r.lands[against][DOG] != 0) {
                through -= r.told[BARK];
            }
            int pushes = 1 + r.stakes[border][HEAVY];
            return pushes > 1 ? through / pushes : through;
        }

        void findRests(Ring r) {
            fillMeans(r);
            restCount = 0;
            restFirst = NONE;
            restMost = NONE;
            restAlike = 0;
            int rows = 1 << 2 * r.n;
            // the row in which all do 1
            int all = (rows - 1) / 3;
            int most = 0;
            for (int row = 0; row < rows; row++) {
                if (!nobodyWouldRather(r, row)) {
                    continue;
                }
                int sum = meansAdded(r, row);
                if (restCount == 0) {
                    restFirst = row;
                }
                if (restCount == 0 || sum > most) {
                    restMost = row;
                    most = sum;
                }
                int doing = digit(r, row, 0);
                if (row == doing * all) {
                    restAlike |= 1 << doing;
                }
                restCount++;
            }
        }

        private void fillMeans(Ring r) {
            for (int f = 0; f < r.n; f++) {
                for (int i = 0; i < DOINGS * DOINGS; i++) {
                    int most = 0;
                    for (int own = 0; own < DOINGS; own++) {
                        int found = mean(r, f, i / DOINGS, own, i % DOINGS);
                        means[f][DOINGS * i + own] = found;
                        most = own == 0 ? found : Math.max(most, found);
                    }
                    bests[f][i] = most;
                }
            }
        }

        private static int around(Ring r, int row, int f) {
            return DOINGS * digit(r, row, r.leftOf(f)) + digit(r, row, r.rightOf(f));
        }

        private boolean nobodyWouldRather(Ring r, int row) {
            for (int f = 0; f < r.n; f++) {
                int i = around(r, row, f);
                if (means[f][DOINGS * i + digit(r, row, f)] < bests[f][i]) {
                    return false;
                }
            }
            return true;
        }

        private int meansAdded(Ring r, int row) {
            int sum = 0;
            for (int f = 0; f < r.n; f++) {
                sum += means[f][DOINGS * around(r, row, f) + digit(r, row, f)];
            }
            return sum;
        }

        int fewestWatchers(Ring r) {
            fillTempted(r);
            return fewestOf(r.n);
        }

        private int fewestOf(int n) {
            int best = NONE;
            for (int set = 0; set < 1 << n; set++) {
                if ((best == NONE || Integer.bitCount(set) < Integer.bitCount(best)) && standsStill(n, set)) {
                    best = set;
                }
            }
            return best;
        }

        private void fillTempted(Ring r) {
            leftIfAsleep = 0;
            leftIfWatched = 0;
            rightIfAsleep = 0;
            rightIfWatched = 0;
            for (int f = 0; f < r.n; f++) {
                int asleep = mean(r, f, SLEEP, SLEEP, SLEEP);
                leftIfAsleep |= mean(r, f, SLEEP, LEFT, SLEEP) > asleep ? 1 << f : 0;
                leftIfWatched |= mean(r, f, WATCH, LEFT, WATCH) > asleep ? 1 << f : 0;
                rightIfAsleep |= mean(r, f, SLEEP, RIGHT, SLEEP) > asleep ? 1 << f : 0;
                rightIfWatched |= mean(r, f, WATCH, RIGHT, WATCH) > asleep ? 1 << f : 0;
            }
        }

        private boolean standsStill(int n, int watching) {
            int leftWatched = watching << 1 | watching >> n - 1;
            int rightWatched = watching >> 1 | watching << n - 1;
            int tempted = leftIfAsleep & ~leftWatched | leftIfWatched & leftWatched
                | rightIfAsleep & ~rightWatched | rightIfWatched & rightWatched;
            return (tempted & ~watching) == 0;
        }

        /** The ring is one of thought: its walls are built and broken here. */
        void findWalls(Ring r, int k) {
            int standing = 0;
            for (int b = 0; b < r.n; b++) {
                standing |= r.stakes[b][WALL] << b;
            }
            boolean found = false;
            for (int set = 0; set < 1 << r.n; set++) {
                int count = Integer.bitCount(set);
                if (count > k || (set & standing) != 0) {
                    continue;
                }
                build(r, standing | set);
                fillTempted(r);
                int watching = fewestOf(r.n);
                int watchers = watching == NONE ? NONE_HOLDS : Integer.bitCount(watching);
                if (!found || watchers < wallWatchers
                    || watchers == wallWatchers && count < Integer.bitCount(wallSet)) {
                    found = true;
                    wallSet = set;
                    wallWatchers = watchers;
                }
            }
        }

        private static void build(Ring r, int set) {
            for (int b = 0; b < r.n; b++) {
                r.stakes[b][WALL] = set >> b & 1;
            }
        }

        static boolean pactHolds(Ring r, int f, int p) {
            int asleep = mean(r, f, SLEEP, SLEEP, SLEEP);
            int won = mean(r, f, SLEEP, RIGHT, SLEEP) - asleep;
            int spared = asleep - mean(r, f, SLEEP, RIGHT, LEFT);
            return (long) won * (THOUSAND - p) <= (long) p * spared;
        }

        static int leastPatience(Ring r, int f) {
            for (int p = 0; p < THOUSAND; p++) {
                if (pactHolds(r, f, p)) {
                    return p;
                }
            }
            return NONE;
        }
    }

    /** Two farms night after night: the best that the first can do against the other's law, by its width. */
    private static final class Duel {
        static final int MOST_TO_COME = 40;
        private static final int[] WAYS = {0, 1, 3};
        private static final long MILLION = 1000000L;

        final long[] later = new long[MOST_WIDTH + 1];
        final int[] doing = new int[MOST_WIDTH + 1];
        private final long[] sooner = new long[MOST_WIDTH + 1];
        // by way and width: the VALUE, the chances that the first farm moves and that the other does
        private final int[][] means = new int[WAYS.length][MOST_WIDTH + 1];
        private final int[][] wins = new int[WAYS.length][MOST_WIDTH + 1];
        private final int[][] losses = new int[WAYS.length][MOST_WIDTH + 1];
        private int all = 0;
        private int step = 0;

        /** The ring is one of thought: its widths and the wall of its border 1 are changed here. */
        void prepare(Ring r, int widths) {
            all = widths;
            step = r.told[FEET];
            r.stakes[1][WALL] = 1;
            for (int w = 0; w <= all; w++) {
                r.lands[0][WIDTH] = w;
                r.lands[1][WIDTH] = all - w;
                int other = r.does(1);
                boolean open = Counsel.canMove(r, 0, 0, 1);
                for (int i = 0; i < WAYS.length; i++) {
                    int own = WAYS[i];
                    means[i][w] = Counsel.mean(r, 0, other, own, other);
                    wins[i][w] = open && own == RIGHT ? Counsel.chance(r, 0, 1, other == WATCH) : 0;
                    losses[i][w] = open && other == LEFT ? Counsel.chance(r, 0, 0, own == WATCH) : 0;
                }
            }
        }

        void play(int k, int p) {
            Arrays.fill(later, 0L);
            for (int night = 0; night < k; night++) {
                for (int w = 0; w <= all; w++) {
                    choose(w, p);
                }
                System.arraycopy(sooner, 0, later, 0, all + 1);
            }
        }

        private void choose(int w, int p) {
            for (int i = 0; i < WAYS.length; i++) {
                long found = THOUSAND * (long) means[i][w] + Math.floorDiv(p * comesNext(i, w), (long) THOUSAND);
                if (i == 0 || found > sooner[w]) {
                    sooner[w] = found;
                    doing[w] = WAYS[i];
                }
            }
        }

        private long comesNext(int i, int w) {
            long c = wins[i][w];
            long e = losses[i][w];
            int out = Math.min(step, all - w);
            int in = Math.min(step, w);
            long sum = c * e * later[w + out - in]
                + c * (THOUSAND - e) * later[w + out]
                + (THOUSAND - c) * e * later[w - in]
                + (THOUSAND - c) * (THOUSAND - e) * later[w];
            return Math.floorDiv(sum, MILLION);
        }
    }
}
