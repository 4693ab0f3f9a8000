import java.util.ArrayList;
import java.util.List;
import java.util.function.ToLongFunction;

/**
 * A test for each sentence of the document that names a boundary case: one just inside, one just outside; of a call
 * that is refused its answer and, by a twin that was not called, that nothing is changed. Answers worked out by hand.
 */
public final class EdgeTests {
    private static final int NONE = -1;
    private static final int NO_NUMBER = -100000000;
    private static final int LEAST = Integer.MIN_VALUE;
    private static final int MOST = Integer.MAX_VALUE;
    private static final int[] FIRST_OF_FARM = {10, 0, NONE, 0, 0, 99, 0, NONE, 0};
    private static final int[] FIRST_OF_BORDER = {0, 0, 0, NONE};
    private static final int[] FIRST_SETTINGS = {20, 10, 5, 3, 5, 1, 10, 900, 300, 1};
    private static final int[] MOST_SETTINGS = {99, 99, 99, 99, 99, 99, 99, 1000, 1000, 5};
    private static int wrong = 0;
    private static int asked = 0;
    private static int sentences = 0;
    private static String sentence = "";

    /** What follows tests this sentence of the document. */
    private static void says(String words) {
        sentence = words;
        sentences++;
    }

    private static void due(String call, long got, long want) {
        asked++;
        if (got != want) {
            wrong++;
            System.out.println("\"" + sentence + "\": " + call + " answered " + got + ", due is " + want);
        }
    }

    private static void yes(String call, boolean got) {
        due(call, got ? 1 : 0, 1);
    }

    private static void no(String call, boolean got) {
        due(call, got ? 1 : 0, 0);
    }

    private static long asLong(boolean answer) {
        return answer ? 1 : 0;
    }

    // ---- objects

    /** Blanks fill the tape up to the next twenty bytes, and end() takes them away again. */
    private static void put(FootANight x, String text) {
        x.end(0);
        for (int from = 0; from < text.length(); from += 20) {
            int[] five = new int[5];
            for (int i = 0; i < 20; i++) {
                five[i / 4] = five[i / 4] << 8 | (from + i < text.length() ? text.charAt(from + i) : ' ');
            }
            x.feed(five[0], five[1], five[2], five[3], five[4]);
        }
        yes("end(" + text.length() + ")", x.end(text.length()));
    }

    private static int feedBlanks(FootANight x) {
        return x.feed(0x20202020, 0x20202020, 0x20202020, 0x20202020, 0x20202020);
    }

    private static void law(FootANight x, int k, String text, int lines) {
        put(x, text);
        due("text(" + k + ") of '" + text + "'", x.text(k), lines);
        due("fault(0) of '" + text + "'", x.fault(0), 0);
        due("fault(1) of '" + text + "'", x.fault(1), NONE);
    }

    private static void faulty(String text, int fault, int place) {
        FootANight x = new FootANight();
        put(x, text);
        due("text(0) of '" + text + "'", x.text(0), NONE);
        due("fault(0) of '" + text + "'", x.fault(0), fault);
        due("fault(1) of '" + text + "'", x.fault(1), place);
    }

    private static void fine(String text, int lines) {
        law(new FootANight(), 0, text, lines);
    }

    private static FootANight ring(int n) {
        FootANight x = new FootANight();
        x.ring(n);
        return x;
    }

    /** In law k stands: do what is told, whatever is. */
    private static void always(FootANight x, int k, int doing) {
        law(x, k, "do " + doing + ";", 1);
    }

    /** Farm 0 of n moves right for ever, the others sleep. */
    private static FootANight creeping(int n) {
        FootANight x = ring(n);
        always(x, 3, 3);
        x.farm(0, 1, 3);
        return x;
    }

    private static void tellAllBut(FootANight x, int what, int v, int but) {
        for (int f = 0; f < x.look(0); f++) {
            if (f != but) {
                x.farm(f, what, v);
            }
        }
    }

    /** An object with a past: whatever can be told was told, nights went by, and an image was taken. */
    private static FootANight lived(int n) {
        FootANight x = ring(n);
        law(x, 0, "do 3 when night < 9;", 1);
        law(x, 1, "do 1 when hit > 50; do 2;", 2);
        law(x, 2, "do 2 when rwide > 5 and not ldog = 1; do 3;", 2);
        int[] settings = {19, 9, 4, 2, 6, 2, 8, 700, 400, 2};
        for (int what = 0; what < 10; what++) {
            x.set(what, settings[what]);
        }
        x.farm(0, 0, 12);
        x.farm(0, 2, 1);
        x.farm(0, 3, 1);
        x.farm(1, 1, 1);
        x.farm(n - 1, 1, 2);
        x.border(0, 1, 2);
        x.border(n - 1, 1, 1);
        x.state(12345);
        for (int f = 0; f < n; f++) {
            x.was(f, x.of(f, 0));
        }
        x.nights(2);
        x.image(true);
        x.nights(2);
        put(x, "do 4;");
        x.text(3);
        put(x, "do 2;");
        return x;
    }

    private static void lookAround(FootANight x, List<Long> answers) {
        for (int what = 0; what < 20; what++) {
            answers.add((long) x.look(what));
        }
        for (int f = 0; f < x.look(0); f++) {
            for (int what = 0; what < 9; what++) {
                answers.add((long) x.of(f, what));
            }
            for (int what = 0; what < 4; what++) {
                answers.add((long) x.stake(f, what));
            }
        }
        answers.add((long) x.judged());
        int state = x.state(0);
        x.state(state);
        answers.add((long) state);
    }

    /** All that an object can tell: what is now, in thought, in the tape, in the image, and how it goes on. */
    private static List<Long> allOf(FootANight x) {
        List<Long> answers = new ArrayList<>();
        answers.add((long) x.fault(0));
        answers.add((long) x.fault(1));
        lookAround(x, answers);
        answers.add((long) x.still());
        answers.add((long) x.thought(4, 0));
        answers.add((long) feedBlanks(x));
        answers.add((long) x.text(3));
        x.farm(1, 1, 3);
        answers.add((long) x.nights(3));
        answers.add((long) x.of(1, 0));
        answers.add(asLong(x.image(false)));
        lookAround(x, answers);
        return answers;
    }

    /** The answer is due, and the object goes on as its twin does, who was not called. */
    private static void unchanged(int n, String call, long want, ToLongFunction<FootANight> made) {
        FootANight x = lived(n);
        due(call, made.applyAsLong(x), want);
        List<Long> found = allOf(x);
        List<Long> twins = allOf(lived(n));
        yes("all that is told behind " + call, found.equals(twins));
    }

    private static void refused(String call, long want, ToLongFunction<FootANight> made) {
        unchanged(4, call, want, made);
    }

    // ---- what the document says ahead of its paragraphs

    private static void quotients() {
        says("Quotients go downwards (to the lesser one), where nothing else is told.");
        FootANight x = ring(4);
        x.border(0, 1, 2);
        due("c is 333: value(192, 0)", x.value(192, 0), 3330 - 6670 - 3000);
        x.border(0, 1, 3);
        due("c is 250: value(192, 0)", x.value(192, 0), 2500 - 7500 - 3000);
        x.border(0, 1, 1);
        x.farm(1, 3, 1);
        x.set(8, 1);
        due("c is 499: value(192, 0)", x.value(192, 0), 4990 - 5010 - 3000);
        // farm 1 moves left against farm 0, who sleeps at 99 a doing, by a dog of 1: e is 999
        x = ring(2);
        always(x, 1, 2);
        x.farm(1, 1, 1);
        x.farm(0, 3, 1);
        x.set(3, 99);
        x.set(4, 99);
        x.set(8, 1);
        due("a night", x.two(1, 1, 10, 0), -20980000);
        due("the second: 20980 of it, no part left", x.two(2, 1, 10, 0), -20980000 - 20980);
        due("the third: a thousandth of -21000980 is -21001", x.two(3, 1, 10, 0), -20980000 - 21001);
        // p 0: nothing but the night itself
        due("by 0", x.two(3, 0, 10, 0), -20980000);
    }

    private static void states() {
        says("There is one STATE (an int, 0 at first)");
        FootANight x = ring(4);
        int[] told = {0, LEAST, MOST, NONE, 1, 0};
        for (int i = 1; i < told.length; i++) {
            due("state(" + told[i] + ")", x.state(told[i]), told[i - 1]);
        }
        says("STATE becomes 1664525 STATE + 1013904223 (ints, which wrap)");
        stateBehindADraw(0, 1013904223);
        stateBehindADraw(1, 1015568748);
        stateBehindADraw(MOST, -1135243950);
        stateBehindADraw(LEAST, -1133579425);
        stateBehindADraw(NONE, 1012239698);
        says("it is its highest 24 bits (without sign) modulo m");
        drawn(0, 563);
        // -1616538073 is 2678429223 without sign, by 256 10462614
        drawn(1000, 614);
        drawn(MOST, 669);
        drawn(457, 0);
        drawn(1188, 999);
    }

    private static FootANight againstADog() {
        FootANight x = creeping(4);
        x.farm(1, 3, 1);
        return x;
    }

    private static void stateBehindADraw(int before, int behind) {
        FootANight x = againstADog();
        x.state(before);
        x.nights(1);
        due("behind a DRAW from " + before, x.state(0), behind);
    }

    private static void drawn(int state, int number) {
        FootANight x = againstADog();
        x.state(state);
        x.set(8, number);
        x.nights(1);
        due("a DRAW of " + number + " below " + number, x.of(0, 6), 0);
        x.set(8, number + 1);
        x.state(state);
        x.nights(1);
        due("a DRAW of " + number + " below " + (number + 1), x.of(0, 6), 1);
    }

    // ---- 1: the ring

    private static void rings() {
        says("A RING has n FARMS (2 .. 10; 4 at first), 0 .. n - 1");
        due("look(0) of a new one", new FootANight().look(0), 4);
        FootANight x = new FootANight();
        due("of(3, 0)", x.of(3, 0), 10);
        due("of(4, 0)", x.of(4, 0), NO_NUMBER);
        for (int n = 2; n <= 10; n++) {
            yes("ring(" + n + ")", x.ring(n));
            due("look(0)", x.look(0), n);
            due("the last FARM", x.of(n - 1, 2), n - 1);
            due("one behind the last", x.of(n, 2), NO_NUMBER);
            due("one ahead of the first", x.of(-1, 2), NO_NUMBER);
            due("the last BORDER", x.stake(n - 1, 3), NONE);
            due("one behind the last BORDER", x.stake(n, 3), NONE - 1);
            due("all WIDTHS", x.look(3), 10 * n);
        }
        says("ring: true; false if it can't be.");
        for (int n : new int[] {1, 0, -1, -2, LEAST, 11, 12, MOST}) {
            refused("ring(" + n + ")", 0, y -> asLong(y.ring(n)));
        }
        says("A RING of n FARMS, all as at first (LAWS' texts, costs, chances, NIGHT, MOVED stay; ..)");
        for (int n : new int[] {2, 4, 10}) {
            begun(n);
        }
        says("no JUDGE's WIDTHS are told");
        x = lived(4);
        x.ring(4);
        due("judged() of none", x.judged(), NONE);
        for (int f = 0; f < 3; f++) {
            x.was(f, 10);
        }
        due("judged() of all but one", x.judged(), NONE);
        x.was(3, 10);
        due("judged() of all", x.judged(), 0);
    }

    private static void begun(int n) {
        FootANight x = lived(4);
        int night = x.look(1);
        int moved = x.look(2);
        int does = x.of(0, 8);
        yes("feet were moved", moved > 0);
        yes("ring(" + n + ")", x.ring(n));
        for (int f = 0; f < n; f++) {
            for (int what = 0; what < 8; what++) {
                due("of(" + f + ", " + what + ")", x.of(f, what), what == 2 ? f : FIRST_OF_FARM[what]);
            }
            for (int what = 0; what < 4; what++) {
                due("stake(" + f + ", " + what + ")", x.stake(f, what), FIRST_OF_BORDER[what]);
            }
        }
        due("NIGHT", x.look(1), night);
        due("MOVED", x.look(2), moved);
        due("EATEN", x.look(4), 0);
        int[] settings = {19, 9, 4, 2, 6, 2, 8, 700, 400, 2};
        for (int what = 0; what < 10; what++) {
            due("look(1" + what + ")", x.look(10 + what), settings[what]);
        }
        due("LAW 0's text stays", x.of(0, 8), does);
        yes("the image stays", x.image(false));
        due("n of the image", x.look(0), 4);
    }

    private static void newFarms() {
        says("each has a WIDTH 0 .. 60 feet (10 at first), a LAW 0 .. 3 (0), a FAMILY 0 .. 9 (its own number), ..");
        FootANight x = new FootANight();
        for (int f = 0; f < 4; f++) {
            for (int what = 0; what < 9; what++) {
                due("of(" + f + ", " + what + ") at first", x.of(f, what), what == 2 ? f : FIRST_OF_FARM[what]);
            }
            for (int what = 0; what < 4; what++) {
                due("stake(" + f + ", " + what + ") at first", x.stake(f, what), FIRST_OF_BORDER[what]);
            }
        }
        due("NIGHT at first", x.look(1), 0);
        due("MOVED at first", x.look(2), 0);
        due("EATEN at first", x.look(4), 0);
        no("the TAPE is empty at first", x.end(1));
        no("there is no image", x.image(false));
        due("fault(0) without a text()", x.fault(0), 0);
        due("fault(1) without a text()", x.fault(1), NONE);
    }

    private static void farms() {
        newFarms();
        int[] most = {60, 3, 9, 1};
        FootANight x = new FootANight();
        says("farm: true; false if one can't be, or another what.");
        for (int what = 0; what < 4; what++) {
            int part = what;
            for (int f : new int[] {0, 3}) {
                for (int v : new int[] {0, 1, most[what] - 1, most[what]}) {
                    yes("farm(" + f + ", " + what + ", " + v + ")", x.farm(f, what, v));
                    due("of(" + f + ", " + what + ")", x.of(f, what), v);
                }
            }
            due("another FARM's", x.of(1, what), what == 2 ? 1 : FIRST_OF_FARM[what]);
            for (int v : new int[] {-1, LEAST, most[what] + 1, MOST}) {
                refused("farm(0, " + what + ", " + v + ")", 0, y -> asLong(y.farm(0, part, v)));
            }
            for (int f : new int[] {-1, LEAST, 4, 10, MOST}) {
                refused("farm(" + f + ", " + what + ", 1)", 0, y -> asLong(y.farm(f, part, 1)));
            }
        }
        for (int what : new int[] {-1, LEAST, 4, 5, 6, 7, 8, MOST}) {
            refused("farm(0, " + what + ", 1)", 0, y -> asLong(y.farm(0, what, 1)));
        }
        unchanged(10, "farm(10, 0, 1)", 0, y -> asLong(y.farm(10, 0, 1)));
        unchanged(2, "farm(2, 0, 1)", 0, y -> asLong(y.farm(2, 0, 1)));
        yes("the tenth farm", ring(10).farm(9, 0, 1));
    }

    private static void borders() {
        says("BORDER f lies between FARM f and FARM f + 1 (modulo n), the right one of FARM f, the left one of the other");
        for (int n : new int[] {2, 4, 10}) {
            FootANight x = ring(n);
            always(x, 3, 3);
            always(x, 2, 2);
            x.farm(n - 1, 1, 3);
            due("the last moves right", x.nights(1), 1);
            due("who moved the last BORDER", x.stake(n - 1, 3), n - 1);
            due("FARM 0", x.of(0, 0), 9);
            x.farm(n - 1, 1, 0);
            x.farm(0, 1, 2);
            due("FARM 0 moves left", x.nights(1), 1);
            due("who moved the last BORDER", x.stake(n - 1, 3), 0);
            due("the last FARM", x.of(n - 1, 0), 10);
            x.farm(0, 1, 0);
            x.farm(1, 1, 2);
            due("FARM 1 moves left", x.nights(1), 1);
            due("who moved BORDER 0", x.stake(0, 3), 1);
            due("nobody moved BORDER 1", n > 2 ? x.stake(1, 3) : NONE, NONE);
        }
        says("it has a WALL or none, is HEAVY 0 .. 3 (0), has a PUSH (0) and who pushed last (none)");
        FootANight x = new FootANight();
        int[] most = {1, 3};
        for (int what = 0; what < 2; what++) {
            int part = what;
            for (int b : new int[] {0, 3}) {
                for (int v = most[what]; v >= 0; v--) {
                    yes("border(" + b + ", " + what + ", " + v + ")", x.border(b, what, v));
                    due("stake(" + b + ", " + what + ")", x.stake(b, what), v);
                }
                x.border(b, what, most[what]);
            }
            due("another BORDER's", x.stake(1, what), 0);
            for (int v : new int[] {-1, LEAST, most[what] + 1, MOST}) {
                refused("border(0, " + what + ", " + v + ")", 0, y -> asLong(y.border(0, part, v)));
            }
            for (int b : new int[] {-1, LEAST, 4, 10, MOST}) {
                refused("border(" + b + ", " + what + ", 1)", 0, y -> asLong(y.border(b, part, 1)));
            }
        }
        for (int what : new int[] {-1, LEAST, 2, 3, MOST}) {
            refused("border(0, " + what + ", 1)", 0, y -> asLong(y.border(0, what, 1)));
        }
        unchanged(10, "border(10, 0, 1)", 0, y -> asLong(y.border(10, 0, 1)));
        unchanged(2, "border(2, 0, 1)", 0, y -> asLong(y.border(2, 0, 1)));
        yes("the tenth border", ring(10).border(9, 0, 1));
        pushedAnew();
    }

    private static void pushedAnew() {
        says("A BORDER is told what 0 WALL (0, 1), 1 HEAVY: true (PUSH is 0)");
        FootANight x = creeping(4);
        x.border(0, 1, 3);
        for (int what = 0; what < 2; what++) {
            x.nights(2);
            due("PUSH of two nights", x.stake(0, 2), 2);
            x.border(1, what, what);
            due("PUSH, another BORDER told", x.stake(0, 2), 2);
            no("border(0, " + what + ", 4)", x.border(0, what, 4));
            due("PUSH, nothing told", x.stake(0, 2), 2);
            x.border(0, what, x.stake(0, what));
            due("PUSH, as it was told", x.stake(0, 2), 0);
        }
    }

    private static void settings() {
        says("FIRST .. (20, 10, 5 at first; 0 .. 99 each); COSTS (0 .. 99 each); CHANCES of 1000; FEET 1 (0 .. 5)");
        FootANight x = new FootANight();
        for (int what = 0; what < 10; what++) {
            int part = what;
            int most = MOST_SETTINGS[what];
            due("look(1" + what + ") at first", x.look(10 + what), FIRST_SETTINGS[what]);
            for (int v : new int[] {0, 1, most - 1, most}) {
                yes("set(" + what + ", " + v + ")", x.set(what, v));
                due("look(1" + what + ")", x.look(10 + what), v);
            }
            for (int v : new int[] {-1, LEAST, most + 1, MOST}) {
                refused("set(" + what + ", " + v + ")", 0, y -> asLong(y.set(part, v)));
            }
        }
        for (int what = 0; what < 10; what++) {
            due("look(1" + what + "), all at most", x.look(10 + what), MOST_SETTINGS[what]);
        }
        for (int what : new int[] {-1, LEAST, 10, 11, MOST}) {
            refused("set(" + what + ", 1)", 0, y -> asLong(y.set(what, 1)));
        }
    }

    private static void worths() {
        says("WORTH of a WIDTH w: FIRST for each foot up to 10, NEXT for each above these up to 30, REST for each above");
        FootANight x = new FootANight();
        int[][] pairs = {{0, 0}, {1, 20}, {9, 180}, {10, 200}, {11, 210}, {29, 390}, {30, 400}, {31, 405}, {60, 550},
            {61, 555}, {599, 3245}, {600, 3250}};
        for (int[] pair : pairs) {
            due("worth(" + pair[0] + ")", x.worth(pair[0]), pair[1]);
        }
        for (int what = 0; what < 3; what++) {
            x.set(what, 99);
        }
        due("worth(600) at 99", x.worth(600), 59400);
        for (int what = 0; what < 3; what++) {
            x.set(what, 0);
        }
        due("worth(600) at 0", x.worth(600), 0);
        says("worth (0 .. 600); NONE if it can't be.");
        for (int w : new int[] {-1, LEAST, 601, MOST}) {
            refused("worth(" + w + ")", NONE, y -> y.worth(w));
        }
        refused("worth(600)", 19 * 10 + 9 * 20 + 4 * 570, y -> y.worth(600));
    }

    // ---- 2: texts

    private static final String[] KEYWORDS = {"do", "when", "or", "and", "not", "wide", "lwide", "rwide", "gain", "loss",
        "night", "hit", "dog", "ldog", "rdog", "lkin", "rkin", "lwall", "rwall", "purse"};
    private static final String NAMES = " wide lwide rwide gain loss night hit dog ldog rdog lkin rkin lwall rwall purse ";
    private static final String SIGNS = ";+-*/()<=>";

    private static void grammar() {
        says("LAWS 0 .. 3 are TEXTS (empty at first)");
        FootANight x = new FootANight();
        for (int k = 0; k < 4; k++) {
            x.farm(0, 1, k);
            due("of(0, 8) by LAW " + k + " at first", x.of(0, 8), 0);
            always(x, k, 3);
            due("of(0, 8) by LAW " + k, x.of(0, 8), 3);
            law(x, k, "", 0);
            due("of(0, 8) by LAW " + k + ", empty", x.of(0, 8), 0);
        }
        says("{do N [when B] ;}  B = A {or A}.  A = C {and C}.  C = E (< | = | >) E | not C | ( B ).  ..");
        String names = " 1" + NAMES;
        String starts = names + "not ( ";
        String parts = " + - * / ";
        canStand("", " do ");
        canStand("do", " 1 ");
        canStand("do 1", " when ; ");
        canStand("do 1;", " do ");
        canStand("do 1 when", starts);
        canStand("do 1 when not", starts);
        canStand("do 1 when (", starts);
        canStand("do 1 when 1<1 and", starts);
        canStand("do 1 when 1<1 or", starts);
        canStand("do 1 when 1", parts + "< = > ");
        canStand("do 1 when wide", parts + "< = > ");
        canStand("do 1 when not 1", parts + "< = > ");
        canStand("do 1 when (1", parts + "< = > ");
        canStand("do 1 when 1+1", parts + "< = > ");
        canStand("do 1 when 1/1", parts + "< = > ");
        for (String sign : new String[] {"+", "-", "*", "<", "=", ">", "<1+", "=1-", ">1*"}) {
            canStand("do 1 when 1" + sign, names);
        }
        canStand("do 1 when 1/", " 1 ");
        canStand("do 1 when 1=1/", " 1 ");
        canStand("do 1 when 1=1", parts + "and or ; ");
        canStand("do 1 when 1=1*wide/2", parts + "and or ; ");
        canStand("do 1 when not 1=1", parts + "and or ; ");
        canStand("do 1 when (1=1", parts + "and or ) ");
        canStand("do 1 when ((1=1)", " and or ) ");
        canStand("do 1 when (1=1)", " and or ; ");
        canStand("do 1 when not (1=1)", " and or ; ");
        canStand("do 1 when (1=1);", " do ");
    }

    /** A token that can stand there lacks what must follow at most, at the end; any other is the FAULT itself. */
    private static void canStand(String ahead, String tokens) {
        List<String> all = new ArrayList<>(List.of(KEYWORDS));
        for (char sign : SIGNS.toCharArray()) {
            all.add("" + sign);
        }
        all.addAll(List.of("1", "10000", "x", "DO", "&", ".", ",", "!"));
        for (String token : all) {
            String text = ahead + " " + token;
            if (!tokens.contains(" " + token + " ")) {
                faulty(text, 1, text.length() - token.length());
            } else if (token.equals(";")) {
                fine(text, 1);
            } else {
                faulty(text, 1, text.length());
            }
        }
        if (ahead.isEmpty() || ahead.endsWith(";")) {
            fine(ahead, ahead.isEmpty() ? 0 : 1);
        } else {
            faulty(ahead, 1, ahead.length());
        }
    }

    private static void bindings() {
        says("B = A {or A}.  A = C {and C}.  C = E (< | = | >) E | not C | ( B ).  E = T {(+ | -) T}.  T = U {* U | / NUMBER}.");
        FootANight x = new FootANight();
        so(x, "1=1 or 1=1 and 1=2");
        so(x, "1=2 and 1=1 or 1=1");
        notSo(x, "(1=1 or 1=1) and 1=2");
        notSo(x, "1=2 and (1=1 or 1=1)");
        so(x, "not 1=2 or 1=1");
        notSo(x, "not (1=2 or 1=1)");
        notSo(x, "not 1=1 and 1=2");
        so(x, "not (1=1 and 1=2)");
        so(x, "not 1=2 and 1=1");
        so(x, "1=2 or 1=2 or 1=1");
        notSo(x, "1=1 and 1=1 and 1=2");
        so(x, "1=2 or not not 1=1 and not 1=2");
        so(x, "2+3*4=14 and 2*3+4=10 and 14=2+3*4");
        so(x, "20-5-3=12 and 20-5+3=18");
        so(x, "7/2*2=6 and 7*2/2=7 and 60/5/4=3 and 1-7/2=0-2");
        so(x, "1<2 and 2>1 and 2=2 and not 2<2 and not 2>2 and not 1=2 and not 2<1 and not 1>2");
    }

    private static void tokens() {
        says("letters (capitals, too) as many as stand together are KEYWORDS (those told here) or none");
        for (String word : KEYWORDS) {
            int at = word.equals("do") ? 0 : word.equals("when") ? 5 : word.equals("or") || word.equals("and") ? 14 : 10;
            String ahead = "do 1 when 1=1 ".substring(0, at);
            String capital = (char) (word.charAt(0) - 32) + word.substring(1);
            for (String other : new String[] {word + "a", word + "z", word + "A", word + "Z", "a" + word, "Z" + word,
                word + word, word.substring(0, word.length() - 1), word.substring(1), capital}) {
                if (!NAMES.contains(" " + other + " ")) {
                    faulty(ahead + other, 1, at);
                }
            }
            // what is no letter ends it: then it can stand, and what follows can't
            for (char other : new char[] {'@', '[', '`', '{', (char) 225}) {
                faulty(ahead + word + other, 1, at + word.length());
            }
        }
        fine("do1when1=1and1=1or not1=1;", 1);
        faulty("do1when1=1ornot1=1;", 1, 10);
        faulty("d o 1;", 1, 0);
        says("digits as many as stand together NUMBERS of 1 to 4 digits or none");
        fine("do 3;", 1);
        fine("do 0003;", 1);
        faulty("do 00003;", 1, 3);
        fine("do 1 when 9999=1;", 1);
        faulty("do 1 when 10000=1;", 1, 10);
        faulty("do 1 when 99999999999999999999=1;", 1, 10);
        faulty("do 1 when 4294967297=1;", 1, 10);
        faulty("do 1 when 1=00000;", 1, 12);
        faulty("do 0 1;", 1, 5);
        faulty("do 1 when 1=1:", 1, 13);
        faulty("do 1 when 1=1.", 1, 13);
        FootANight x = new FootANight();
        so(x, "9999 - 9998 = 1 and 0009 = 9 and 0000 = 0 and 10 > 9");
        says("; + - * / ( ) < = >");
        for (char c = 0; c < 256; c++) {
            boolean letter = c >= 'a' && c <= 'z' || c >= 'A' && c <= 'Z';
            boolean digit = c >= '0' && c <= '9';
            if (!letter && !digit && c != ' ' && c != '\n' && c != ';') {
                faulty("do 1" + c, 1, 4);
            }
            if (!letter && !digit && c != ' ' && c != '\n' && "+-*/<=>".indexOf(c) < 0) {
                faulty("do 1 when 1" + c, 1, 11);
            }
        }
        says("Blanks (32, 10) between");
        fine("\n\n  do\n1 \nwhen \n 1\n=\n\n1\n;\n ", 1);
        fine(" ".repeat(400), 0);
        fine("\n".repeat(400), 0);
        for (char c : new char[] {0, 9, 11, 12, 13, 31, 33, 160}) {
            faulty(c + "do 1;", 1, 0);
            faulty("do 1" + c + ";", 1, 4);
            faulty("do 1;" + c, 1, 5);
        }
    }

    private static int done(FootANight x, int f, String condition) {
        law(x, 3, "do 2 when " + condition + ";", 1);
        x.farm(f, 1, 3);
        return x.of(f, 8);
    }

    private static void so(FootANight x, String condition) {
        due(condition, done(x, 0, condition), 2);
    }

    private static void notSo(FootANight x, String condition) {
        due(condition, done(x, 0, condition), 0);
    }

    private static void ints() {
        says("Ints, which wrap");
        FootANight x = new FootANight();
        // 2099580021 + 47903626 is 2147483647
        so(x, "9999*9999*21 + 4790*9999 + 8416 > 0");
        so(x, "9999*9999*21 + 4790*9999 + 8417 < 0");
        so(x, "0 - 9999*9999*21 - 4790*9999 - 8417 < 0");
        so(x, "0 - 9999*9999*21 - 4790*9999 - 8418 > 0");
        so(x, "9999*9999*21 > 0");
        so(x, "9999*9999*22 < 0");
        so(x, "4096*4096*256 = 0");
        so(x, "4096*4096*255 = 0 - 4096*4096");
        // no comparison by a difference, which would wrap
        so(x, "9999*9999*21 > 0 - 9999*9999*21");
        notSo(x, "9999*9999*21 < 0 - 9999*9999*21");
        says("/ goes towards 0");
        so(x, "9999*9999*22 / 1000 = 0 - 209*9999 - 5616");
        so(x, "9999*9999*22 / 1 = 9999*9999*22");
        so(x, "4096*4096*128 / 9999 = 0 - 21*9999 - 4790");
        FootANight poor = poor();
        due("PURSE", poor.of(0, 4), -13);
        so(poor, "purse / 13 = 0 - 1");
        so(poor, "purse / 14 = 0");
        so(poor, "purse / 2 = 0 - 6 and 13 / 2 = 6 and 14 / 2 = 7 and 1 / 2 = 0");
        so(poor, "purse < 0 and purse < 1 and not purse > 0");
    }

    /** Farm 0 was caught, worked, and its feet are worth nothing. */
    private static FootANight poor() {
        FootANight x = creeping(4);
        always(x, 2, 1);
        x.farm(1, 1, 2);
        x.set(0, 0);
        x.set(7, 1000);
        x.nights(1);
        return x;
    }

    private static String times(int n, String part) {
        return part.repeat(n);
    }

    private static void faults() {
        says("FAULTS, the first by its place");
        faulty("do 1 when 1/0=1; x", 2, 12);
        faulty("do 4; x", 2, 3);
        faulty("do x; do 4;", 1, 3);
        faulty("do 1 when 1/0/0=1;", 2, 12);
        faulty("do 1 when (((((((((1/0=1", 3, 18);
        faulty("do 1 when ((((((((1/0=1 and (((", 2, 20);
        faulty(times(16, "do 1;") + "do 4;", 3, 80);
        faulty(times(15, "do 1;") + "do 4;do 1;", 2, 78);
        says("at one place the least");
        faulty("do 12345;", 1, 3);
        faulty("do 1 when 1/00000=1;", 1, 12);
        faulty("do 1 when ((((((((1 (", 1, 20);
        faulty(times(16, "do 1;") + "do1", 3, 80);
        faulty(times(16, "do 1;") + "dot", 1, 80);
        faulty(times(15, "do 1;") + "do 1 do", 1, 80);
        says("1 what can't stand there (the end: the text's length)");
        faulty("do", 1, 2);
        faulty("do  \n", 1, 5);
        faulty("do 1 when 1=1" + times(387, " "), 1, 400);
        fine("do 1 when 1=1" + times(386, " ") + ";", 1);
        faulty("do 1 when 1=1" + times(386, " ") + "x", 1, 399);
        says("2 (at the NUMBER) a part by 0");
        faulty("do 1 when 1/0", 2, 12);
        faulty("do 1 when 1 / 0=1;", 2, 14);
        faulty("do 1 when 1/0000=1;", 2, 12);
        faulty("do 1 when 1=1*2/ 00", 2, 17);
        fine("do 1 when 1/1=1;", 1);
        fine("do 1 when 1/0001=1;", 1);
        fine("do 1 when 1/10=1;", 1);
        fine("do 1 when 0/9999=1*0;", 1);
        says("a DOING above 3");
        for (int doing = 0; doing < 4; doing++) {
            fine("do " + doing + ";", 1);
        }
        faulty("do 4", 2, 3);
        faulty("do  0004;", 2, 4);
        faulty("do 10;", 2, 3);
        faulty("do 9999;", 2, 3);
        says("3 (at its KEYWORD) the 17th line");
        fine(times(15, "do 1;"), 15);
        fine(times(16, "do 1;"), 16);
        fine(times(16, "do 1 when 1=1; "), 16);
        faulty(times(17, "do 1;"), 3, 80);
        faulty(times(16, "do 1;") + " \n do", 3, 83);
        faulty(times(16, "do 1 when 1=1;") + "do 0;", 3, 224);
        opened();
    }

    private static void opened() {
        says("(at it) the 9th ( or not that is open");
        fine("do 1 when " + times(8, "(") + "1=1" + times(8, ")") + ";", 1);
        faulty("do 1 when " + times(9, "(") + "1=1" + times(9, ")") + ";", 3, 18);
        fine("do 1 when " + times(8, "not ") + "1=1;", 1);
        faulty("do 1 when " + times(9, "not ") + "1=1;", 3, 42);
        fine("do 1 when " + times(4, "not(") + "1=1" + times(4, ")") + ";", 1);
        faulty("do 1 when " + times(4, "not(") + "not 1=1" + times(4, ")") + ";", 3, 26);
        faulty("do 1 when " + times(4, "not(") + "(1=1)" + times(4, ")") + ";", 3, 26);
        // those that are closed are open no more
        fine("do 1 when " + times(9, "(1=1)and") + " 1=1;", 1);
        fine("do 1 when " + times(9, "not 1=1 or ") + " 1=1;", 1);
        fine("do 1 when " + times(9, "not(1=1)and ") + "1=1;", 1);
        fine("do 1;" + "do 1 when " + times(8, "(") + "1=1" + times(8, ")") + ";do 1 when " + times(8, "(") + "1=1"
            + times(8, ")") + ";", 3);
        fine("do 1 when " + times(7, "(") + "(1=1)and(1=1)or not 1=1" + times(7, ")") + ";", 1);
        faulty("do 1 when " + times(7, "(") + "(1=1)and((1=1))" + times(7, ")") + ";", 3, 26);
        faulty("do 1 when " + times(7, "(") + "not 1=1 and not not 1=1" + times(7, ")") + ";", 3, 33);
        fine("do 1 when " + times(8, "not ") + "1=1 and " + times(8, "not ") + "1=1;", 1);
        fine("do 1 when " + times(8, "(") + "1=1" + times(8, ")") + "and " + times(8, "not ") + "1=1;", 1);
        FootANight x = new FootANight();
        // of each text the ( and not are counted anew, behind a FAULT, too
        for (String part : new String[] {"(", "not ", "not(", "1=1 and (", "1+(", "1*2=3+4 or "}) {
            put(x, "do 1 when " + times(4, part));
            due("text(0) of it", x.text(0), NONE);
            law(x, 0, "do 1 when " + times(8, "(") + "1=1" + times(8, ")") + ";", 1);
            due("of(0, 8)", x.of(0, 8), 1);
        }
        so(x, times(8, "not ") + "1=1 and " + times(7, "not ") + "1=2");
        notSo(x, times(7, "not ") + "1=1 or " + times(8, "(") + "1=2" + times(8, ")"));
    }

    private static void texts() {
        says("text: The TAPE, empty then, is LAW k: how many lines.");
        for (int k = 0; k < 4; k++) {
            FootANight x = new FootANight();
            x.farm(0, 1, k);
            law(x, k, "do 2;do 1;", 2);
            no("end(1): the TAPE is empty", x.end(1));
            due("of(0, 8)", x.of(0, 8), 2);
            for (int other = 0; other < 4; other++) {
                x.farm(1, 1, other);
                due("of(1, 8) by LAW " + other, x.of(1, 8), other == k ? 2 : 0);
            }
        }
        fine("", 0);
        says("NONE: no such one (fault() tells 0) ..; the TAPE is empty in each case");
        for (int k : new int[] {-1, LEAST, 4, MOST}) {
            FootANight x = lived(4);
            int does = x.of(0, 8);
            due("a FAULT ahead", x.fault(0), 2);
            due("text(" + k + ")", x.text(k), NONE);
            due("fault(0)", x.fault(0), 0);
            due("fault(1)", x.fault(1), NONE);
            no("end(1)", x.end(1));
            due("of(0, 8)", x.of(0, 8), does);
            put(x, "do 9;");
            due("text(" + k + ") that has a FAULT", x.text(k), NONE);
            due("fault(0)", x.fault(0), 0);
        }
        says("or a FAULT (the TEXT stays as it was; the TAPE is empty in each case)");
        FootANight x = new FootANight();
        always(x, 0, 3);
        for (String text : new String[] {"do 1;do 2", "do 1;do 4;", "do 1;" + times(16, "do 2;"), "x"}) {
            put(x, text);
            due("text(0) of '" + text + "'", x.text(0), NONE);
            no("end(1)", x.end(1));
            due("of(0, 8)", x.of(0, 8), 3);
        }
        says("Of the latest text(): what 0 the FAULT (0 without one), 1 its place (NONE). NONE for another what.");
        due("fault(0)", x.fault(0), 1);
        due("fault(1)", x.fault(1), 0);
        always(x, 1, 1);
        for (int what : new int[] {-1, LEAST, 2, 3, MOST}) {
            refused("fault(" + what + ")", NONE, y -> y.fault(what));
        }
        refused("fault(0)", 2, y -> y.fault(0));
        refused("fault(1)", 3, y -> y.fault(1));
    }

    private static void tapes() {
        says("Twenty bytes come behind the TAPE, of each number the highest first: how many it has.");
        FootANight x = new FootANight();
        for (int i = 1; i <= 20; i++) {
            due("feed, the TAPE of " + 20 * (i - 1), feedBlanks(x), 20 * i);
        }
        due("text of 400", x.text(0), 0);
        // "do 1" "when" " 1=1" " ; do" " 3; " and, of a byte each, the last one 255
        x.feed(0x646F2031, 0x7768656E, 0x20313D31, 0x3B646F20, 0x333B20FF);
        due("text", x.text(0), NONE);
        due("the byte 255 is the last", x.fault(1), 19);
        due("no sign of a byte", x.feed(-1, -1, -1, -1, -1), 20);
        due("text", x.text(0), NONE);
        due("the first byte", x.fault(1), 0);
        says("NONE, and nothing comes, if there would be more than 400.");
        for (int length : new int[] {379, 380, 381, 399, 400}) {
            x = new FootANight();
            put(x, times(length, " "));
            due("feed behind " + length, x.feed(0x646F2033, 0x3B646F20, 0x333B646F, 0x20333B20, 0x20202020),
                length <= 380 ? length + 20 : NONE);
            due("end(" + (length + 1) + ")", asLong(x.end(length + 1)), length <= 380 ? 1 : 0);
            yes("end(" + length + ")", x.end(length));
            due("text of " + length, x.text(0), 0);
        }
        x = new FootANight();
        put(x, times(390, " ") + "do 1;     ");
        due("feed behind 400", x.feed(0, 0, 0, 0, 0), NONE);
        due("text of 400, as if not fed", x.text(0), 1);
        due("feed behind none", feedBlanks(x), 20);
        says("end: The TAPE has its first n bytes alone: true; false, changing nothing, if it has not so many, or n is below 0.");
        refused("end(5) of 5", 1, y -> asLong(y.end(5)));
        for (int n : new int[] {6, 20, 400, 401, MOST, -1, LEAST}) {
            refused("end(" + n + ") of 5", 0, y -> asLong(y.end(n)));
        }
        x = new FootANight();
        put(x, "do 1;do 2;do 3;");
        yes("end(10)", x.end(10));
        no("end(11): cut off", x.end(11));
        due("feed behind 10", feedBlanks(x), 30);
        due("text", x.text(0), 2);
        yes("end(0) of none", x.end(0));
        no("end(1) of none", x.end(1));
        put(x, times(400, " "));
        no("end(401) of 400", x.end(401));
        yes("end(400) of 400", x.end(400));
        yes("end(0) of 400", x.end(0));
        due("feed behind end(0)", feedBlanks(x), 20);
    }

    // ---- 2: what a farm does

    private static void doings() {
        says("the DOING of the first line of its LAW whose B is so (or that has none), else sleep");
        FootANight x = new FootANight();
        law(x, 1, "do 1 when wide < 5; do 2 when wide < 9; do 3 when wide = 9;", 3);
        x.farm(2, 1, 1);
        int[] does = {0, 1, 1, 1, 1, 2, 2, 2, 2, 3, 0};
        for (int w = 0; w < does.length; w++) {
            x.farm(2, 0, w);
            due("of(2, 8) of a WIDTH of " + w, x.of(2, 8), does[w]);
        }
        law(x, 1, "do 2 when wide = 10; do 1; do 3;", 3);
        due("the first line", x.of(2, 8), 2);
        x.farm(2, 0, 11);
        due("the line without B", x.of(2, 8), 1);
        law(x, 1, times(15, "do 1 when 1=2;") + "do 3 when wide=11;", 16);
        due("the 16th line", x.of(2, 8), 3);
        x.farm(2, 0, 12);
        due("none of 16 lines", x.of(2, 8), 0);
        law(x, 1, "do 0 when wide = 12; do 3;", 2);
        due("a DOING of 0 is the first, too", x.of(2, 8), 0);
        says("nothing (sleep) if its WIDTH is 0");
        always(x, 1, 1);
        x.farm(2, 0, 1);
        due("of(2, 8) of 1 foot", x.of(2, 8), 1);
        x.farm(2, 0, 0);
        due("of(2, 8) of none", x.of(2, 8), 0);
        x.nights(1);
        due("PURSE: it did not watch", x.of(2, 4), 0);
    }

    private static void seenByTexts() {
        says("gain: WORTH with FEET more less WORTH");
        FootANight x = new FootANight();
        gains(x, 10, 1, 10, 20);
        gains(x, 9, 1, 20, 20);
        gains(x, 9, 2, 30, 40);
        gains(x, 11, 1, 10, 10);
        gains(x, 30, 1, 5, 10);
        gains(x, 29, 1, 10, 10);
        gains(x, 31, 1, 5, 5);
        gains(x, 31, 2, 10, 15);
        gains(x, 60, 5, 25, 25);
        gains(x, 10, 0, 0, 0);
        says("loss: WORTH less WORTH with FEET less (0 at least)");
        gains(x, 5, 5, 100, 100);
        gains(x, 4, 5, 100, 80);
        gains(x, 6, 5, 90, 100);
        gains(x, 1, 5, 100, 20);
        gains(x, 1, 1, 20, 20);
        says("wide, lwide, rwide: WIDTHS of it, of its left and right neighbour; ldog, rdog; lwall, rwall");
        for (int n : new int[] {2, 4, 10}) {
            neighbours(n);
        }
        says("lkin, rkin: 1, if that neighbour is of its FAMILY");
        x = new FootANight();
        so(x, "lkin = 0 and rkin = 0");
        x.farm(0, 2, 3);
        so(x, "lkin = 1 and rkin = 0");
        x.farm(0, 2, 1);
        so(x, "lkin = 0 and rkin = 1");
        x.farm(3, 2, 1);
        so(x, "lkin = 1 and rkin = 1");
        x.farm(2, 2, 0);
        x.farm(0, 2, 0);
        so(x, "lkin = 0 and rkin = 0");
        says("night: NIGHT; hit; dog .. (1, 0); purse");
        so(x, "night = 0 and hit = 99 and dog = 0 and purse = 0");
        x.farm(0, 3, 1);
        so(x, "night = 0 and hit = 99 and dog = 1 and purse = 0");
        x.farm(3, 1, 3);
        law(x, 3, "do 3;", 1);
        x.nights(1);
        so(x, "night = 1 and hit = 0 and wide = 10 and purse = 200 - 1 - 3");
    }

    private static void gains(FootANight x, int width, int feet, int gain, int loss) {
        x.farm(0, 0, width);
        x.set(9, feet);
        so(x, "wide = " + width + " and gain = " + gain + " and loss = " + loss);
    }

    private static void neighbours(int n) {
        FootANight x = ring(n);
        for (int f = 0; f < n; f++) {
            x.farm(f, 0, 11 + f);
        }
        x.farm(n - 1, 3, 1);
        x.border(n - 1, 0, 1);
        String wide = "wide = 11 and lwide = " + (10 + n) + " and rwide = 12";
        so(x, wide + " and ldog = 1 and dog = 0 and rdog = " + (n == 2 ? 1 : 0) + " and lwall = 1 and rwall = 0");
        x.farm(n - 1, 3, 0);
        x.farm(0, 3, 1);
        String last = "wide = " + (10 + n) + " and lwide = " + (9 + n) + " and rwide = 11";
        String dogs = " and ldog = " + (n == 2 ? 1 : 0) + " and dog = 0 and rdog = 1 and lwall = 0 and rwall = 1";
        due(last + dogs, done(x, n - 1, last + dogs), 2);
    }

    // ---- 3: nights

    private static void nightsCounted() {
        says("NIGHT 0 at first, 9999 at most; nights (1 .. 99): .. NONE, and nothing is done, if one can't be, or beyond");
        for (int n : new int[] {0, -1, LEAST, 100, 101, MOST}) {
            refused("nights(" + n + ")", NONE, y -> y.nights(n));
        }
        FootANight x = creeping(4);
        due("nights(1)", x.nights(1), 1);
        due("NIGHT", x.look(1), 1);
        due("nights(99): nine feet are left", x.nights(99), 9);
        due("NIGHT", x.look(1), 100);
        due("nights(2) of nothing to move", x.nights(2), 0);
        x = creeping(4);
        x.set(9, 0);
        for (int i = 0; i < 100; i++) {
            x.nights(99);
        }
        x.set(9, 1);
        due("NIGHT", x.look(1), 9900);
        x.image(true);
        due("nights(99) to 9999", x.nights(99), 10);
        due("NIGHT", x.look(1), 9999);
        nothingIsDone(x, 1);
        nothingIsDone(x, 99);
        nothingIsDone(x, 0);
        x.image(false);
        x.nights(1);
        nothingIsDone(x, 99);
        due("nights(98) to 9999", x.nights(98), 9);
        due("EATEN in", x.of(1, 7), 9909);
        yes("ring(4)", x.ring(4));
        nothingIsDone(x, 1);
    }

    private static void nothingIsDone(FootANight x, int n) {
        int night = x.look(1);
        int moved = x.look(2);
        int purse = x.of(0, 4);
        due("nights(" + n + ") at " + night, x.nights(n), NONE);
        due("NIGHT", x.look(1), night);
        due("MOVED", x.look(2), moved);
        due("PURSE", x.of(0, 4), purse);
    }

    private static void askedAhead() {
        says("what all FARMS DO is asked ahead. Then FARM by FARM, 0 first");
        FootANight x = creeping(4);
        law(x, 2, "do 3 when lwide = 10 and wide = 10;", 1);
        x.farm(1, 1, 2);
        due("FARM 1 is asked ahead of FARM 0's foot", x.nights(1), 2);
        due("and sleeps then", x.nights(1), 1);
        // farm 1 watches by its width, which comes to 0 by FARM 0; then FARM 2 finds nothing there
        x = ring(4);
        always(x, 0, 2);
        always(x, 1, 1);
        always(x, 3, 3);
        tellAllBut(x, 1, 2, -1);
        x.farm(0, 1, 3);
        x.farm(1, 1, 1);
        x.farm(2, 1, 0);
        x.farm(1, 0, 1);
        x.set(7, 0);
        due("nights(1)", x.nights(1), 1);
        due("FARM 0 was first", x.of(0, 0), 11);
        due("one DRAW alone", x.state(0), 1013904223);
        due("nobody pushed there", x.stake(1, 3), NONE);
        due("PURSE of one that watched and was eaten", x.of(1, 4), -5);
        says("the neighbour's WIDTH is 0 by now");
        due("EATEN in", x.of(1, 7), 0);
        x = creeping(4);
        x.farm(1, 0, 1);
        always(x, 2, 3);
        x.farm(1, 1, 2);
        due("one whose own WIDTH is 0 by now moves", x.nights(1), 2);
        due("and is not EATEN", x.of(1, 7), NONE);
        due("WIDTH", x.of(1, 0), 1);
    }

    private static void nothingMoves() {
        says("nothing, if that BORDER has a WALL, FEET is 0, or the neighbour's WIDTH is 0 by now");
        for (int way = 0; way < 4; way++) {
            FootANight x = againstADog();
            x.set(8, 1000);
            if (way == 1) {
                x.border(0, 0, 1);
            } else if (way == 2) {
                x.set(9, 0);
            } else if (way == 3) {
                x.farm(1, 0, 0);
            }
            due("nights(1)", x.nights(1), 0);
            due("CAUGHT", x.of(0, 6), way == 0 ? 1 : 0);
            due("STATE", x.state(0), way == 0 ? 1013904223 : 0);
            due("PUSH", x.stake(0, 2), 0);
            due("who pushed last", x.stake(0, 3), NONE);
            due("PURSE: WORK all the same", x.of(0, 4), way == 0 ? 187 : 197);
        }
        FootANight x = creeping(4);
        x.border(1, 0, 1);
        x.border(3, 0, 1);
        x.set(9, 5);
        x.farm(1, 0, 1);
        due("WALLS at other BORDERS, a foot left", x.nights(1), 1);
    }

    private static void stopped() {
        says("it is stopped: if the neighbour watches, by a DRAW of 1000 below STOP");
        caughtBy(1, 7);
        says("else, if he has a DOG, by a DRAW of 1000 below BARK");
        caughtBy(0, 8);
        FootANight x = watched();
        x.farm(1, 3, 1);
        x.set(7, 0);
        x.set(8, 1000);
        due("one that watches: no BARK", x.nights(1), 1);
        due("one DRAW alone", x.state(0), 1013904223);
        x = creeping(4);
        x.set(8, 1000);
        x.set(7, 1000);
        x.farm(0, 3, 1);
        x.farm(2, 3, 1);
        due("no DOG there, nobody watches", x.nights(1), 1);
        due("no DRAW", x.state(0), 0);
        says("Stopped: CAUGHT is one more, PURSE is FINE less, PUSH of the BORDER is 0");
        x = watched();
        x.border(0, 1, 3);
        x.set(7, 0);
        x.nights(2);
        due("PUSH", x.stake(0, 2), 2);
        x.set(7, 1000);
        due("nights(1)", x.nights(1), 0);
        due("PUSH", x.stake(0, 2), 0);
        due("who pushed last", x.stake(0, 3), 0);
        due("CAUGHT", x.of(0, 6), 1);
        due("PURSE", x.of(0, 4), 3 * 197 - 10);
        due("PURSE of who watched", x.of(1, 4), 3 * 195);
        x.nights(2);
        due("CAUGHT", x.of(0, 6), 3);
        due("another one's", x.of(1, 6), 0);
        x.set(7, 0);
        x.nights(1);
        due("PUSH", x.stake(0, 2), 1);
        x.set(7, 1000);
        x.set(6, 0);
        x.nights(1);
        due("PURSE without a FINE", x.of(0, 4), 7 * 197 - 30);
    }

    /** Farm 0 moves right, farm 1 watches. */
    private static FootANight watched() {
        FootANight x = creeping(4);
        always(x, 2, 1);
        x.farm(1, 1, 2);
        return x;
    }

    /** The neighbour watches or has a dog: DRAWS of 0, 563 and 999, one above and not above the chance. */
    private static void caughtBy(int watches, int chance) {
        int[] states = {457, 0, 1188};
        int[] draws = {0, 563, 999};
        for (int i = 0; i < draws.length; i++) {
            for (int more = 0; more < 2; more++) {
                FootANight x = watches == 1 ? watched() : againstADog();
                x.set(15 - chance, 0);
                x.set(chance, draws[i] + more);
                x.state(states[i]);
                due("nights(1): " + draws[i] + " below " + (draws[i] + more), x.nights(1), 1 - more);
                due("CAUGHT", x.of(0, 6), more);
                due("WIDTH", x.of(0, 0), 11 - more);
            }
        }
    }

    private static void pushes() {
        says("PUSH is one more (1, if another one pushed last, or nobody); who pushed last is this FARM");
        FootANight x = creeping(4);
        always(x, 2, 2);
        x.border(0, 1, 3);
        x.nights(1);
        due("nobody pushed last", x.stake(0, 2), 1);
        due("who", x.stake(0, 3), 0);
        x.nights(2);
        due("one more, and one more", x.stake(0, 2), 3);
        x.farm(0, 1, 0);
        x.farm(1, 1, 2);
        x.nights(1);
        due("another one pushed last", x.stake(0, 2), 1);
        due("who", x.stake(0, 3), 1);
        x.farm(0, 1, 3);
        x.nights(1);
        due("both: FARM 0 first", x.stake(0, 2), 1);
        due("who", x.stake(0, 3), 1);
        x.farm(0, 1, 0);
        x.farm(1, 1, 0);
        x.nights(9);
        due("nobody pushes", x.stake(0, 2), 1);
        says("if PUSH is above HEAVY then, it is 0 and the BORDER moves by FEET");
        for (int heavy = 0; heavy < 4; heavy++) {
            x = creeping(4);
            x.border(0, 1, heavy);
            due("HEAVY " + heavy, heavy == 0 ? 0 : x.nights(heavy), 0);
            due("PUSH", x.stake(0, 2), heavy);
            due("one night more", x.nights(1), 1);
            due("PUSH", x.stake(0, 2), 0);
            due("who pushed last", x.stake(0, 3), 0);
            due("and again", x.nights(heavy + 1), 1);
        }
        x = creeping(4);
        x.border(0, 1, 3);
        x.nights(3);
        x.border(0, 1, 2);
        due("HEAVY told: PUSH is 0", x.nights(2), 0);
        due("above 2", x.nights(1), 1);
    }

    private static void moves() {
        says("the BORDER moves by FEET, at most by the neighbour's WIDTH: he is narrower by that, the FARM wider");
        for (int feet = 1; feet <= 5; feet++) {
            for (int width = 1; width <= 6; width++) {
                FootANight x = creeping(4);
                x.set(9, feet);
                x.farm(1, 0, width);
                int gone = Math.min(feet, width);
                due("nights(1)", x.nights(1), gone);
                due("WIDTH", x.of(0, 0), 10 + gone);
                due("WIDTH of the neighbour", x.of(1, 0), width - gone);
                due("EATEN", x.of(1, 7), width <= feet ? 0 : NONE);
                due("MOVED counts feet in all", x.look(2), gone);
                due("all WIDTHS", x.look(3), 30 + width);
            }
        }
        says("(it may be above 60)");
        FootANight x = creeping(4);
        x.farm(0, 0, 60);
        x.nights(1);
        due("WIDTH", x.of(0, 0), 61);
        due("PURSE", x.of(0, 4), 555 - 3);
        so(x, "wide = 61 and gain = 5 and loss = 5");
        no("farm(0, 0, 61) is told", x.farm(0, 0, 61));
        due("WIDTH", x.of(0, 0), 61);
        due("judged(), not told", x.judged(), NONE);
    }

    private static void settled() {
        says("PURSE is WORTH of its WIDTH more, less WORK if it did 2 or 3, WATCHING if 1, DOGS if it has one");
        int[] costs = {0, 5, 3, 3};
        for (int doing = 0; doing < 4; doing++) {
            for (int dog = 0; dog < 2; dog++) {
                FootANight x = new FootANight();
                always(x, 1, doing);
                x.farm(0, 1, 1);
                x.farm(0, 3, dog);
                x.set(9, 0);
                x.nights(1);
                due("PURSE, DOING " + doing + ", DOGS " + dog, x.of(0, 4), 200 - costs[doing] - dog);
                x.farm(0, 0, 0);
                x.nights(1);
                due("PURSE, a WIDTH of 0", x.of(0, 4), 200 - costs[doing] - 2 * dog);
            }
        }
        says("HIT: 0, if it LOST, else one more (99 at most)");
        FootANight x = creeping(4);
        due("HIT at first", x.of(1, 5), 99);
        x.nights(1);
        due("HIT", x.of(1, 5), 0);
        due("HIT of who did not lose", x.of(0, 5), 99);
        x.nights(1);
        due("HIT again", x.of(1, 5), 0);
        x.farm(0, 1, 0);
        x.nights(1);
        due("HIT", x.of(1, 5), 1);
        x.nights(97);
        due("HIT", x.of(1, 5), 98);
        x.nights(1);
        due("HIT", x.of(1, 5), 99);
        x.nights(1);
        due("HIT", x.of(1, 5), 99);
        x.farm(0, 1, 3);
        x.border(0, 1, 1);
        x.nights(1);
        due("HIT of one that was pushed against", x.of(1, 5), 99);
        says("A FARM whose WIDTH is 0 and that is not EATEN yet is EATEN in this NIGHT.");
        x = creeping(4);
        x.farm(1, 0, 2);
        x.nights(1);
        due("EATEN, one foot left", x.of(1, 7), NONE);
        x.nights(1);
        due("EATEN in", x.of(1, 7), 1);
        due("EATEN", x.look(4), 1);
        x.nights(3);
        due("EATEN, as before", x.of(1, 7), 1);
        x.farm(1, 0, 1);
        due("EATEN, told wide again", x.of(1, 7), 1);
        x.nights(1);
        due("EATEN, a second time", x.of(1, 7), 1);
        x.farm(2, 0, 0);
        due("EATEN, told so by day", x.of(2, 7), NONE);
        x.nights(1);
        due("EATEN in", x.of(2, 7), 6);
        due("EATEN", x.look(4), 2);
        due("who still stands", x.of(3, 7), NONE);
    }

    // ---- 4: what a night is worth in the mean

    private static void rows() {
        says("A ROW is DOINGS of all FARMS (FARM 0 the highest digit, to the base of 4).");
        for (int n = 2; n <= 10; n++) {
            FootANight x = ring(n);
            int all = 1 << 2 * n;
            due("n " + n + ": FARM 0 right", x.value(3 * all / 4, 0), 7000);
            due("n " + n + ": the last FARM right", x.value(3, n - 1), 7000);
            due("n " + n + ": FARM 0 beside it", x.value(3, 0), -20000);
            due("n " + n + ": all right", x.value(all - 1, n - 1), 7000 - 20000);
            due("n " + n + ": no such ROW", x.value(all, 0), NO_NUMBER);
            due("n " + n + ": no such ROW", x.reply(all, 0), NONE);
            due("n " + n + ": all right, a reply", x.reply(all - 1, 0), 1);
            due("n " + n + ": no such FARM", x.value(0, n), NO_NUMBER);
            due("n " + n + ": no such FARM", x.reply(0, n), NONE);
        }
        says("value: NONE - 99999999 if one can't be; reply: NONE if one can't be.");
        for (int row : new int[] {-1, LEAST, 256, MOST}) {
            refused("value(" + row + ", 0)", NO_NUMBER, y -> y.value(row, 0));
            refused("reply(" + row + ", 0)", NONE, y -> y.reply(row, 0));
        }
        for (int f : new int[] {-1, LEAST, 4, 10, MOST}) {
            refused("value(0, " + f + ")", NO_NUMBER, y -> y.value(0, f));
            refused("reply(0, " + f + ")", NONE, y -> y.reply(0, f));
        }
    }

    private static void values() {
        says("a BORDER that can be (no WALL, WIDTHS of both above 0, FEET above 0)");
        FootANight x = ring(4);
        canBe(x, true);
        x.border(0, 0, 1);
        canBe(x, false);
        x.border(0, 0, 0);
        x.border(1, 0, 1);
        x.border(3, 0, 1);
        canBe(x, true);
        x.set(9, 0);
        canBe(x, false);
        x.set(9, 1);
        x.farm(0, 0, 0);
        canBe(x, false);
        x.farm(0, 0, 10);
        x.farm(1, 0, 0);
        canBe(x, false);
        says("(..; a FARM with WIDTH 0 has 0 but for costs.)");
        x = ring(4);
        x.farm(1, 0, 0);
        x.farm(1, 3, 1);
        int[] costs = {1000, 6000, 4000, 4000};
        for (int doing = 0; doing < 4; doing++) {
            due("all move, FARM 1 does " + doing, x.value(3 * 64 + doing * 16 + 2 * 4 + 3, 1), -costs[doing]);
        }
        says("d the less of FEET and the neighbour's WIDTH; d the less of FEET and its WIDTH");
        for (int feet = 1; feet <= 5; feet++) {
            for (int width = 1; width <= 6; width++) {
                x = ring(4);
                x.set(9, feet);
                x.farm(1, 0, width);
                int d = Math.min(feet, width);
                due("FEET " + feet + ", a WIDTH of " + width, x.value(192, 0), 10000 * d - 3000);
                due("FEET " + feet + ", a WIDTH of " + width, x.value(192, 1), -20000 * d);
            }
        }
        x = ring(4);
        x.set(9, 2);
        x.farm(0, 0, 9);
        due("a foot at 20 and one at 10", x.value(192, 0), 27000);
        x.farm(0, 0, 29);
        due("a foot at 10 and one at 5", x.value(192, 0), 12000);
        x.farm(1, 0, 31);
        due("a foot at 5 and one at 10", x.value(192, 1), -15000);
        chances();
    }

    private static void canBe(FootANight x, boolean can) {
        due("value(192, 0)", x.value(192, 0), can ? 7000 : -3000);
        due("value(192, 1)", x.value(192, 1), can ? -20000 : 0);
        due("value(32, 1)", x.value(32, 1), can ? 7000 : -3000);
        due("value(32, 0)", x.value(32, 0), can ? -20000 : 0);
    }

    private static void chances() {
        says("c is of 1000: not stopped (1000 less STOP if ..; else less BARK if it has a DOG; else 1000)");
        FootANight x = ring(4);
        x.farm(1, 3, 1);
        for (int chance : new int[] {0, 1, 500, 999, 1000}) {
            int c = 1000 - chance;
            x.set(7, chance);
            x.set(8, 1000 - chance);
            int won = 10 * c - 10 * (1000 - c) - 3000;
            int lost = -20 * c - 5000 - 1000;
            due("STOP " + chance, x.value(192 + 16, 0), won);
            due("STOP " + chance + ", who is moved against", x.value(192 + 16, 1), lost);
            x.set(7, 1000 - chance);
            x.set(8, chance);
            due("BARK " + chance, x.value(192, 0), won);
            due("BARK " + chance + ", who is moved against", x.value(192, 1), lost + 5000);
        }
        x.farm(1, 3, 0);
        due("neither: 1000", x.value(192, 0), 7000);
        due("one that moves itself does not watch", x.value(192 + 32, 0), 7000 - 20000);
        x.set(7, 900);
        due("left, the right one watches", x.value(128 + 16, 0), 7000);
        due("left, the left one watches", x.value(128 + 1, 0), 1000 - 9000 - 3000);
        due("right, the left one watches", x.value(192 + 1, 0), 7000);
        says("by one more than HEAVY");
        int[] c = {1000, 500, 333, 250};
        int[] watched = {100, 50, 33, 25};
        for (int heavy = 0; heavy < 4; heavy++) {
            x.set(7, 900);
            x.border(0, 1, heavy);
            due("HEAVY " + heavy, x.value(192, 0), 20 * c[heavy] - 10000 - 3000);
            due("HEAVY " + heavy + ", watched", x.value(192 + 16, 0), 20 * watched[heavy] - 10000 - 3000);
            due("HEAVY " + heavy + ", who watches", x.value(192 + 16, 1), -20 * watched[heavy] - 5000);
        }
    }

    private static void resting() {
        says("RESTS (n up to 6); NONE if one can't be (n above 6), or another what.");
        for (int n = 2; n <= 10; n++) {
            FootANight x = ring(n);
            x.set(9, 0);
            int[] rests = {1, 0, 0, 1};
            for (int what = 0; what < 4; what++) {
                due("n " + n + ": rests(" + what + ")", x.rests(what), n <= 6 ? rests[what] : NONE);
            }
        }
        for (int what : new int[] {-1, LEAST, 4, MOST}) {
            refused("rests(" + what + ")", NONE, y -> y.rests(what));
        }
        for (int what = 0; what < 4; what++) {
            int each = what;
            unchanged(7, "rests(" + what + ") of 7", NONE, y -> y.rests(each));
        }
        says("all ROWS in which no FARM has a greater VALUE, if it alone did something else");
        FootANight x = ring(2);
        // FEET 0 and WATCHING 0: to watch is as good as to sleep, to move is not
        x.set(9, 0);
        x.set(4, 0);
        restsAre(x, 4, 0, 0, 3);
        x.set(3, 0);
        restsAre(x, 16, 0, 0, 15);
        x.set(4, 1);
        restsAre(x, 9, 0, 0, 1 + 4 + 8);
        x.set(3, 1);
        restsAre(x, 1, 0, 0, 1);
        says("how many, the first (NONE), that with the most VALUES of all added (NONE)");
        x = ring(2);
        restsAre(x, 0, NONE, NONE, 0);
        says("of several the first; those in which all do alike (as a set of DOINGS)");
        x.set(4, 99);
        restsAre(x, 4, 2 * 4 + 2, 2 * 4 + 2, 4 + 8);
        // border 1 has a wall: farm 0 right, farm 1 left; no two alike
        x.border(1, 0, 1);
        restsAre(x, 1, 3 * 4 + 2, 3 * 4 + 2, 0);
        // farm 1 would lose 5 a foot, farm 0 10: of two borders that farm 0 may choose both are as good
        x = ring(3);
        x.border(1, 0, 1);
        x.set(4, 99);
        x.farm(0, 0, 15);
        x.farm(1, 0, 12);
        x.farm(2, 0, 8);
        restsAre(x, 2, 2 * 16 + 2 * 4 + 3, 3 * 16 + 2 * 4 + 3, 0);
        says("that with the most VALUES of all added (of several the first)");
        restsOfMost();
        says("BEST REPLY: the DOING with the greatest VALUE, the others as they are; of several the least.");
        x = ring(4);
        due("left is as good as right", x.reply(0, 0), 2);
        x.border(3, 0, 1);
        due("right alone", x.reply(0, 0), 3);
        x.set(3, 10);
        due("to sleep is as good as right", x.reply(0, 0), 0);
        x.set(3, 9);
        due("right is better by one", x.reply(0, 0), 3);
        x.set(3, 99);
        x.set(4, 0);
        due("to sleep is as good as to watch", x.reply(0, 0), 0);
        due("to watch is better", x.reply(32, 0), 1);
        x.set(4, 18);
        due("to sleep is as good as to watch for 18", x.reply(32, 0), 0);
        x.set(4, 17);
        due("to watch for 17 is better", x.reply(32, 0), 1);
        x.set(4, 18);
        x.set(3, 10);
        due("of sleep, watch and right the least", x.reply(32, 0), 0);
        due("its own DOING does not count", x.reply(192 + 32, 0), 0);
        x = ring(4);
        due("moved against from the left alone: to watch", x.reply(3, 0), 1);
        x.border(0, 0, 1);
        due("left is watched", x.reply(1, 0), 0);
        due("left is not watched", x.reply(16, 0), 2);
        due("right has a WALL", x.reply(3, 0), 1);
        x.set(4, 99);
        due("watching is dear: left", x.reply(3, 0), 2);
    }

    /** Farms 1 and 4 win as much at either side; who loses loses 10, 15 or 20: left, left; left, right; and so on. */
    private static void restsOfMost() {
        FootANight x = ring(6);
        x.set(9, 2);
        x.set(3, 15);
        x.set(4, 99);
        int[] widths = {40, 10, 31, 30, 10, 40};
        for (int f = 0; f < 6; f++) {
            x.farm(f, 0, widths[f]);
        }
        // lost: 10 + 20, 10 + 10, 15 + 20, 15 + 10
        restsAre(x, 4, 2 * 256 + 2 * 4, 2 * 256 + 3 * 4, 0);
        x.farm(0, 0, 30);
        x.farm(2, 0, 40);
        // lost: 20 + 20, 20 + 10, 10 + 20, 10 + 10
        restsAre(x, 4, 2 * 256 + 2 * 4, 3 * 256 + 3 * 4, 0);
        x.farm(5, 0, 30);
        // lost: 20 + 20 twice, 10 + 20 twice
        restsAre(x, 4, 2 * 256 + 2 * 4, 3 * 256 + 2 * 4, 0);
        // to watch is free: all four neighbours do, and farms 1 and 4 sleep or watch
        x.set(4, 0);
        restsAre(x, 4, 1024 + 64 + 16 + 1, 1024 + 64 + 16 + 1, 2);
        // who watches would rather sleep, and who is moved against watch
        x.set(4, 1);
        restsAre(x, 0, NONE, NONE, 0);
    }

    private static void restsAre(FootANight x, int count, int first, int most, int alike) {
        due("rests(0)", x.rests(0), count);
        due("rests(1)", x.rests(1), first);
        due("rests(2)", x.rests(2), most);
        due("rests(3)", x.rests(3), alike);
    }

    private static void standing() {
        says("STILL: .. for which no FARM that sleeps has a greater VALUE by 2 or 3");
        FootANight x = ring(2);
        x.set(3, 10);
        due("no VALUE is greater", x.still(), 0);
        x.set(3, 9);
        due("greater by 1000", x.still(), 1);
        // if watched: 100 of 10 without a FINE: 1000 less WORK
        x.set(6, 0);
        x.set(3, 1);
        due("watched: not greater", x.still(), 1);
        x.set(3, 0);
        due("watched: greater, so all watch", x.still(), 3);
        says("that with the fewest; of several the least");
        int[] sets = {1, 3, 5, 11, 21, 43, 85, 171, 341};
        for (int n = 2; n <= 10; n++) {
            due("still() of " + n, ring(n).still(), sets[n - 2]);
        }
        x = ring(4);
        x.border(0, 0, 1);
        x.border(3, 0, 1);
        due("FARM 2 alone", x.still(), 4);
        x.border(3, 0, 0);
        x.border(1, 0, 1);
        due("FARM 3 alone", x.still(), 8);
        x.border(2, 0, 1);
        due("FARM 0 or 3", x.still(), 1);
        x.border(3, 0, 1);
        due("no BORDER without a WALL", x.still(), 0);
        x = ring(4);
        x.border(2, 0, 1);
        x.border(3, 0, 1);
        due("FARM 1 alone", x.still(), 2);
        temptedAlone();
        says("NONE if there is none.");
        x = ring(10);
        x.set(3, 0);
        x.set(6, 0);
        x.set(7, 0);
        due("all watch: no FARM sleeps", x.still(), 1023);
        unchanged(10, "still()", lived(10).still(), y -> y.still());
    }

    /** Farm 0's next feet are worth nothing: its neighbour alone would move, and to one side alone. */
    private static void temptedAlone() {
        for (int f = 0; f < 2; f++) {
            for (int b = 0; b < 2; b++) {
                FootANight x = ring(2);
                x.set(2, 0);
                x.farm(f, 0, 60);
                x.border(1 - b, 0, 1);
                due("FARM " + (1 - f) + " would move BORDER " + b, x.still(), 1);
                x.border(b, 0, 1);
                due("BORDER " + b + " has a WALL, too", x.still(), 0);
                x.border(b, 0, 0);
                x.set(3, 0);
                x.set(6, 0);
                due("if it is watched, too", x.still(), 2 - f);
                x.set(6, 99);
                due("not if it is watched", x.still(), 1);
            }
        }
    }

    private static void walled() {
        says("WALLS k (0 .. 2); NONE if one can't be, or another what.");
        for (int k : new int[] {-1, LEAST, 3, MOST}) {
            refused("walls(" + k + ", 0)", NONE, y -> y.walls(k, 0));
            refused("walls(" + k + ", 1)", NONE, y -> y.walls(k, 1));
        }
        for (int what : new int[] {-1, LEAST, 2, MOST}) {
            refused("walls(0, " + what + ")", NONE, y -> y.walls(0, what));
            refused("walls(2, " + what + ")", NONE, y -> y.walls(2, what));
        }
        FootANight x = ring(4);
        wallsAre(x, 0, 0, 2);
        wallsAre(x, 1, 0, 2);
        wallsAre(x, 2, 3, 1);
        says("all sets of up to k BORDERS without a WALL");
        x.border(0, 0, 1);
        wallsAre(x, 0, 0, 2);
        wallsAre(x, 1, 2, 1);
        wallsAre(x, 2, 2, 1);
        x.border(1, 0, 1);
        x.border(2, 0, 1);
        wallsAre(x, 0, 0, 1);
        wallsAre(x, 1, 8, 0);
        wallsAre(x, 2, 8, 0);
        x.border(3, 0, 1);
        wallsAre(x, 0, 0, 0);
        wallsAre(x, 1, 0, 0);
        wallsAre(x, 2, 0, 0);
        says("of several the one with fewest BORDERS, then the least");
        wallsAre(ring(3), 1, 1, 1);
        wallsAre(ring(3), 2, 1, 1);
        wallsAre(ring(2), 1, 0, 1);
        wallsAre(ring(2), 2, 3, 0);
        wallsAre(ring(5), 1, 1, 2);
        wallsAre(ring(5), 2, 1, 2);
        wallsAre(ring(10), 2, 1 + 2, 4);
        says("STILL has the fewest FARMS (none counts as 99)");
        x = ring(2);
        x.set(3, 0);
        x.set(6, 0);
        x.set(7, 0);
        wallsAre(x, 0, 0, 2);
        wallsAre(x, 1, 0, 2);
        wallsAre(x, 2, 3, 0);
        unchanged(4, "walls(2, 1)", lived(4).walls(2, 1), y -> y.walls(2, 1));
    }

    private static void wallsAre(FootANight x, int k, int set, int watchers) {
        due("walls(" + k + ", 0)", x.walls(k, 0), set);
        due("walls(" + k + ", 1)", x.walls(k, 1), watchers);
    }

    private static void pacts() {
        says("PACT .. for a PATIENCE p (0 .. 999); patience NONE: LEAST PATIENCE; NONE if one can't be.");
        for (int p : new int[] {-2, LEAST, 1000, MOST}) {
            refused("pact(0, " + p + ")", NONE, y -> y.pact(0, p));
        }
        for (int f : new int[] {-1, LEAST, 4, 10, MOST}) {
            refused("pact(" + f + ", 0)", NONE, y -> y.pact(f, 0));
            refused("pact(" + f + ", 999)", NONE, y -> y.pact(f, 999));
            refused("pact(" + f + ", NONE)", NONE, y -> y.pact(f, NONE));
        }
        says("it HOLDS, if (..) times (1000 less p) is not above p times (..)");
        // to move alone is worth 7000, to be moved against by both 13000: 7000 of 20000
        for (int n : new int[] {2, 4, 10}) {
            FootANight x = ring(n);
            pactFrom(x, 0, 350);
            pactFrom(x, n - 1, 350);
            due("0", x.pact(n - 1, 0), 0);
            due("999", x.pact(n - 1, 999), 1);
            x.set(3, 10);
            pactFrom(x, 0, 0);
            x.set(3, 9);
            // 1000 by 1000 + 19000: 50
            pactFrom(x, 0, 50);
        }
        says("LEAST PATIENCE: the least p; NONE: never");
        FootANight x = new FootANight();
        x.set(3, 0);
        // 10000 of 20000, then of both moved 10000
        pactFrom(x, 0, 500);
        x.farm(0, 0, 9);
        // a foot at 20 more, one at 20 less: nothing is lost by both
        due("never", x.pact(0, NONE), NONE);
        due("999", x.pact(0, 999), 0);
        x.set(3, 20);
        due("nothing won, 20000 lost", x.pact(0, NONE), 0);
        x = new FootANight();
        x.set(0, 99);
        x.set(1, 99);
        x.set(3, 98);
        // a foot is worth 99 to win and to lose: 1000 of it, if both move -98000
        pactFrom(x, 0, 11);
        x.set(3, 0);
        x.set(1, 98);
        // 98000 alone; both lose 1000: 98000000 by 99000 is above 989
        pactFrom(x, 0, 990);
        // its own DOG costs as much in each
        x.farm(0, 3, 1);
        x.set(5, 99);
        x.set(8, 0);
        pactFrom(x, 0, 990);
        x.farm(0, 3, 0);
        x.set(6, 1);
        x.set(8, 10);
        x.farm(1, 3, 1);
        // alone 990 * 98 less 10 = 97010; both lose 99000 - 97010 = 1990: 97010000 by 99000 is above 979
        pactFrom(x, 0, 980);
    }

    private static void pactFrom(FootANight x, int f, int least) {
        due("pact(" + f + ", NONE)", x.pact(f, NONE), least);
        due("pact(" + f + ", " + least + ")", x.pact(f, least), 1);
        if (least > 0) {
            due("pact(" + f + ", " + (least - 1) + ")", x.pact(f, least - 1), 0);
        }
    }

    // ---- 4: two farms night after night

    private static void duels() {
        says("TWO (n = 2, ..); NONE if one can't be (0: NONE as well may be a value), or another what.");
        for (int n = 3; n <= 10; n++) {
            FootANight x = ring(n);
            due("two() of " + n, x.two(1, 0, 0, 0), NONE);
            due("two() of " + n, x.two(1, 0, 0, 1), NONE);
        }
        for (int what = 0; what < 2; what++) {
            int each = what;
            for (int k : new int[] {0, -1, LEAST, 41, MOST}) {
                unchanged(2, "two(" + k + ", 500, 10, " + what + ")", NONE, y -> y.two(k, 500, 10, each));
            }
            for (int p : new int[] {-1, LEAST, 1000, MOST}) {
                unchanged(2, "two(3, " + p + ", 10, " + what + ")", NONE, y -> y.two(3, p, 10, each));
            }
            int all = lived(2).look(3);
            for (int w : new int[] {-1, LEAST, all + 1, 61, MOST}) {
                unchanged(2, "two(3, 500, " + w + ", " + what + ")", NONE, y -> y.two(3, 500, w, each));
            }
            unchanged(2, "two(40, 999, 0, " + what + ")", lived(2).two(40, 999, 0, what), y -> y.two(40, 999, 0, each));
            unchanged(2, "two(1, 0, all, " + what + ")", lived(2).two(1, 0, all, what), y -> y.two(1, 0, all, each));
        }
        for (int what : new int[] {-1, LEAST, 2, MOST}) {
            unchanged(2, "two(3, 500, 10, " + what + ")", NONE, y -> y.two(3, 500, 10, what));
        }
        says("WIDTHS together up to 60; by widths w (0 .. all, the other has the rest)");
        FootANight x = ring(2);
        for (int[] widths : new int[][] {{0, 0}, {0, 1}, {30, 30}, {0, 60}, {60, 0}, {59, 1}, {30, 31}, {60, 1}, {60, 60}}) {
            x.farm(0, 0, widths[0]);
            x.farm(1, 0, widths[1]);
            int all = widths[0] + widths[1];
            due("all " + all + ", w 0", x.two(1, 0, 0, 0), all > 60 ? NONE : 0);
            due("all " + all + ", w 0", x.two(1, 0, 0, 1), all > 60 ? NONE : 0);
            due("all " + all + ", w all", x.two(1, 0, all, 1), all > 60 ? NONE : 0);
            due("all " + all + ", w all but one", x.two(1, 0, all - 1, 1), all > 60 || all == 0 ? NONE : all == 1 ? 0 : 3);
            due("all " + all + ", w all and one", x.two(1, 0, all + 1, 1), NONE);
        }
        says("what is best with k NIGHTS (1 .. 40) to come; with none to come 0");
        x = ring(2);
        // ten feet are left, each of them 7 thousand: 7000000 and .999 of what comes next, ten times
        int[] best = {7000000, 13993000, 20979007, 27958027, 34930068, 41895137, 48853241, 55804387, 62748582, 69685833};
        for (int k = 1; k <= 40; k++) {
            due("two(" + k + ", 999, 10, 0)", x.two(k, 999, 10, 0), best[Math.min(k, 10) - 1]);
            due("two(" + k + ", 0, 10, 0)", x.two(k, 0, 10, 0), 7000000);
        }
        due("DOING", x.two(40, 999, 10, 1), 3);
        // 495 a night, by .999: the fifth night's sum is above an int, won or lost
        long[] sums = {495000000L, 989505000L, 1483515495L, 1977031979L, 2470054947L};
        long[] lost = {-495000000L, -989505000L, -1483515495L, -1977031980L, -2470054949L};
        FootANight rich = ring(2);
        for (int what = 0; what < 3; what++) {
            rich.set(what, 99);
        }
        rich.set(9, 5);
        rich.set(3, 0);
        rich.farm(0, 0, 60);
        rich.farm(1, 0, 0);
        for (int k = 1; k <= 5; k++) {
            due("two(" + k + ", 999, 10, 0)", rich.two(k, 999, 10, 0), sums[k - 1]);
        }
        always(rich, 1, 2);
        rich.farm(1, 1, 1);
        rich.farm(1, 3, 1);
        rich.set(8, 1000);
        rich.set(7, 0);
        for (int k = 1; k <= 5; k++) {
            due("two(" + k + ", 999, 55, 0)", rich.two(k, 999, 55, 0), lost[k - 1]);
        }
        due("none to take", x.two(40, 999, 20, 0), 0);
        due("none to take with", x.two(40, 999, 0, 0), 0);
        due("none to take with", x.two(40, 999, 0, 1), 0);
        duelsOnWays();
        duelsByLaw();
    }

    private static void duelsOnWays() {
        says("as if BORDER 1 had a WALL");
        FootANight x = ring(2);
        always(x, 1, 3);
        always(x, 2, 2);
        x.farm(1, 1, 1);
        due("FARM 1 moves right: nothing", x.two(1, 0, 10, 0), 7000000);
        law(x, 3, "do 1 when rwall = 1 and lwall = 0; do 2;", 2);
        x.farm(1, 1, 3);
        due("FARM 1 sees it", x.two(1, 0, 10, 1), 0);
        due("the WALL is no other one", x.value(12 + 3, 0), 7000 - 20000);
        due("BORDER 1", x.stake(1, 0), 0);
        x.farm(1, 1, 2);
        due("FARM 1 moves left: watched", x.two(1, 0, 10, 0), -7000000);
        x.border(0, 0, 1);
        due("a WALL at BORDER 0, too", x.two(1, 0, 10, 0), 0);
        says("FARM 0 moves with chance c of 1000 (0 if it does not or can't) by d, FARM 1 (its DOING 2) with e by its own d");
        x = ring(2);
        always(x, 2, 2);
        x.farm(1, 1, 2);
        x.set(4, 99);
        // both move by a foot: 10000 - 3000 - 20000 at 10, and the same width behind it
        due("both", x.two(1, 500, 10, 0), -13000000);
        due("both, and both again", x.two(2, 500, 10, 0), -13000000 - 6500000);
        x.set(9, 5);
        // at 2 of 20: 5 feet at 20 less 2 of them at 20: 100000 - 3000 - 40000 = 57000, then 2 + 5 - 2 = 5
        due("by 5 and by 2", x.two(1, 500, 2, 0), 57000000);
        // at 5: 100000 - 3000 - 100000 = -3000; it is best so, for asleep it loses 100000
        due("at 5", x.two(1, 500, 5, 0), -3000000);
        due("by 5 and by 2, then at 5", x.two(2, 500, 2, 0), 57000000 - 1500000);
        // at 18 the other one has 2: 2 feet at 10 less 5 at 10
        due("by 2 and by 5", x.two(1, 500, 18, 0), 20000000 - 3000000 - 50000000);
        // then at 15: 5 at 10 less 5 at 10
        due("by 2 and by 5, then at 15", x.two(2, 500, 18, 0), -33000000 - 1500000);
        stayed();
        says("(HEAVY as for c.)");
        x = ring(2);
        x.border(0, 1, 3);
        x.set(6, 0);
        x.set(3, 0);
        due("c 250 of 10", x.two(1, 0, 10, 0), 2500000);
        // at 11 the same: .25 and .75 of it
        due("and then", x.two(2, 500, 10, 0), 3750000);
        due("at 19, then .75 of it alone", x.two(2, 500, 19, 0), 2500000 + 937500);
        x.set(9, 0);
        due("FEET 0: can't", x.two(2, 500, 10, 0), 0);
        says("Of several DOINGS the least.");
        due("sleep, watch for nothing, move for nothing", x.two(2, 500, 10, 1), 0);
        x.set(4, 0);
        due("sleep, watch for nothing, move for nothing", x.two(2, 500, 10, 1), 0);
        x.set(9, 1);
        x.set(3, 2);
        due("move for 2500 - 2000", x.two(1, 0, 10, 1), 3);
        x.set(8, 200);
        x.farm(1, 3, 1);
        due("sleep: to move for 2000 - 2000 is none", x.two(1, 0, 10, 1), 0);
        x.set(8, 199);
        due("c 200 of 801", x.two(1, 0, 10, 1), 0);
        x.set(8, 196);
        due("c 201 of 804", x.two(1, 0, 10, 1), 3);
    }

    /** Chances of 0 of farms that do not move or can't; WIDTHS of 0 of which a dog is left. */
    private static void stayed() {
        FootANight x = ring(2);
        x.set(3, 99);
        x.set(4, 99);
        law(x, 1, "do 2 when lwide = 9 or lwide = 11;", 1);
        x.farm(1, 1, 1);
        due("asleep at 11", x.two(1, 999, 11, 0), -10000000);
        due("nobody moves at 10", x.two(2, 999, 10, 0), 0);
        due("nobody moves at 10", x.two(40, 999, 10, 0), 0);
        x = ring(2);
        x.farm(0, 3, 1);
        always(x, 1, 2);
        x.farm(1, 1, 1);
        for (int w = 0; w <= 20; w += 20) {
            due("a dog at " + w, x.two(1, 500, w, 0), -1000000);
            due("a dog at " + w, x.two(2, 500, w, 0), -1500000);
            due("a dog at " + w, x.two(3, 500, w, 0), -1750000);
            due("asleep at " + w, x.two(3, 500, w, 1), 0);
        }
        // at 1 farm 1 takes the last foot with e of 1000: at 0 nothing is lost any more
        x.set(5, 0);
        x.set(3, 99);
        x.set(4, 99);
        x.set(8, 0);
        due("e 1000", x.two(2, 500, 1, 0), -20000000);
        x.set(8, 300);
        due("a DOG of FARM 0: e 700, .3 of it once more", x.two(2, 500, 1, 0), -14000000 - 2100000);
        x.farm(0, 3, 0);
        x.farm(1, 3, 1);
        due("a DOG of FARM 1: e 1000", x.two(2, 500, 1, 0), -20000000);
        x.border(0, 1, 1);
        due("HEAVY 1: e 500", x.two(2, 500, 1, 0), -10000000 - 2500000);
        x.border(0, 1, 0);
        x.border(1, 1, 1);
        due("the other BORDER is HEAVY", x.two(2, 500, 1, 0), -20000000);
        x.set(3, 3);
        x.farm(1, 1, 0);
        // c 700: 7000 - 3000 - 3000 at 10, and at 11 the same
        due("a DOG of FARM 1", x.two(1, 500, 10, 0), 1000000);
        due("a DOG of FARM 1, at 19 .3 of it once more", x.two(2, 500, 19, 0), 1150000);
        due("a DOG of FARM 1, at 18 all of it once more", x.two(2, 500, 18, 0), 1500000);
    }

    private static void duelsByLaw() {
        says("if FARM 1 DOES by its LAW (with these WIDTHS; night, hit, purse as they are)");
        FootANight x = ring(2);
        law(x, 1, "do 1 when wide = 8 or lwide = 13 or rwide = 14 or rwall = 0 or lwall = 1;", 1);
        x.farm(1, 1, 1);
        for (int w = 0; w <= 20; w++) {
            boolean sleeps = w == 0 || w == 12 || w == 13 || w == 14 || w == 20;
            due("w " + w, x.two(1, 0, w, 1), sleeps ? 0 : 3);
        }
        law(x, 1, "do 1 when gain = 20 or loss = 10;", 1);
        due("gain 10, loss 20", x.two(1, 0, 10, 1), 3);
        due("gain 20", x.two(1, 0, 11, 1), 0);
        due("loss 10", x.two(1, 0, 9, 1), 0);
        law(x, 1, "do 1 when night = 1 and hit = 0 and purse = 180;", 1);
        due("at first", x.two(3, 0, 11, 1), 3);
        always(x, 3, 3);
        x.farm(0, 1, 3);
        x.nights(1);
        due("behind a night", x.two(3, 0, 11, 1), 0);
        x.nights(1);
        due("behind two", x.two(3, 0, 11, 1), 3);
        due("of FARM 1 its own LAW alone", x.of(0, 1), 3);
    }

    // ---- 4: mornings, thoughts, the image

    private static void judges() {
        says("A FARM's WIDTH as it was is told for the judge (0 .. 60; NONE: not told any more): true; false if one can't be.");
        for (int f : new int[] {-1, LEAST, 4, 10, MOST}) {
            refused("was(" + f + ", 10)", 0, y -> asLong(y.was(f, 10)));
            refused("was(" + f + ", NONE)", 0, y -> asLong(y.was(f, NONE)));
        }
        for (int w : new int[] {-2, LEAST, 61, MOST}) {
            refused("was(0, " + w + ")", 0, y -> asLong(y.was(0, w)));
        }
        FootANight x = ring(2);
        x.farm(0, 0, 0);
        x.farm(1, 0, 60);
        yes("was(0, 0)", x.was(0, 0));
        due("judged(), one told", x.judged(), NONE);
        yes("was(1, 60)", x.was(1, 60));
        due("judged(), all told", x.judged(), 0);
        yes("was(0, NONE)", x.was(0, NONE));
        due("judged(), one not told any more", x.judged(), NONE);
        yes("was(0, NONE) again", x.was(0, NONE));
        yes("was(0, 1)", x.was(0, 1));
        due("judged(), a foot too many", x.judged(), NONE);
        yes("was(1, 59)", x.was(1, 59));
        due("judged()", x.judged(), 1);
        for (int n = 2; n <= 10; n++) {
            x = ring(n);
            for (int f = 0; f < n; f++) {
                due("judged(), " + f + " told of " + n, x.judged(), NONE);
                x.was(f, 10);
            }
            due("judged(), all told", x.judged(), 0);
            x.was(n - 1, NONE);
            due("judged(), the last not told any more", x.judged(), NONE);
        }
        // a FARM of no WIDTH that is not told is no WIDTH of -1, nor one of 0
        for (int f = 0; f < 2; f++) {
            x = ring(2);
            x.farm(f, 0, 0);
            x.was(1 - f, 11);
            due("judged(), " + f + " not told, a foot more", x.judged(), NONE);
            x.was(1 - f, 10);
            due("judged(), " + f + " not told", x.judged(), NONE);
            x.farm(1 - f, 0, 0);
            x.was(1 - f, 0);
            due("judged(), " + f + " not told, all 0", x.judged(), NONE);
            x.was(f, 0);
            due("judged(), all 0", x.judged(), 0);
        }
        x = ring(3);
        x.farm(2, 0, 0);
        x.nights(1);
        due("judged(), one EATEN, none told", x.judged(), NONE);
        for (int f = 0; f < 3; f++) {
            x.was(f, x.of(f, 0));
        }
        due("judged()", x.judged(), 0);
        due("EATEN is not told by it", x.of(0, 7), NONE);
        due("EATEN is not told by it", x.look(4), 1);
        judgesFeet();
    }

    private static FootANight wasAllTen(int n) {
        FootANight x = ring(n);
        for (int f = 0; f < n; f++) {
            x.was(f, 10);
        }
        return x;
    }

    private static void judgesFeet() {
        says("by how few feet in all BORDERS can have moved, each by FEET at most to one side, none with a WALL");
        for (int feet = 0; feet <= 5; feet++) {
            FootANight x = wasAllTen(4);
            x.set(9, feet);
            x.border(3, 0, 1);
            x.farm(0, 0, 10 + feet);
            x.farm(1, 0, 10 - feet);
            due("FEET " + feet, x.judged(), feet);
            x.farm(0, 0, 11 + feet);
            x.farm(1, 0, 9 - feet);
            due("FEET " + feet + ", one more", x.judged(), NONE);
            x.farm(0, 0, 10 - feet);
            x.farm(1, 0, 10 + feet);
            due("FEET " + feet + ", to the other side", x.judged(), feet);
            x.farm(0, 0, 9 - feet);
            x.farm(1, 0, 11 + feet);
            due("FEET " + feet + ", one more", x.judged(), NONE);
        }
        FootANight x = wasAllTen(4);
        x.farm(0, 0, 11);
        x.farm(2, 0, 9);
        due("two and two: either way", x.judged(), 2);
        x.border(0, 0, 1);
        due("by BORDERS 2 and 3", x.judged(), 2);
        x.border(2, 0, 1);
        due("neither way", x.judged(), NONE);
        x.border(0, 0, 0);
        due("by BORDERS 0 and 1", x.judged(), 2);
        x = wasAllTen(4);
        x.farm(0, 0, 11);
        x.farm(3, 0, 9);
        due("by BORDER 3", x.judged(), 1);
        x.border(3, 0, 1);
        due("by the three others", x.judged(), 3);
        says("NONE if they can't.");
        x.farm(0, 0, 12);
        due("a foot more in all", x.judged(), NONE);
        x = wasAllTen(2);
        x.farm(0, 0, 12);
        x.farm(1, 0, 8);
        due("two BORDERS between two", x.judged(), 2);
        x.border(1, 0, 1);
        due("one of them alone", x.judged(), NONE);
        x.set(9, 2);
        due("by two feet", x.judged(), 2);
        x = creeping(2);
        x.farm(0, 0, 60);
        x.was(0, 60);
        x.was(1, 10);
        x.nights(1);
        due("a WIDTH above 60 as it is", x.judged(), 1);
        x = wasAllTen(10);
        x.farm(9, 0, 11);
        x.farm(0, 0, 9);
        due("by BORDER 9 of ten", x.judged(), 1);
        x.border(9, 0, 1);
        due("by nine others", x.judged(), 9);
    }

    private static void feetOfLaw() {
        says("feet: NONE if one can't be (d NIGHTS 1 .. 60)");
        for (int d : new int[] {0, -1, LEAST, 61, MOST}) {
            refused("feet(" + d + ")", NONE, y -> y.feet(d));
        }
        unchanged(4, "feet(1)", lived(4).feet(1), y -> y.feet(1));
        unchanged(4, "feet(60)", lived(4).feet(60), y -> y.feet(60));
        says("of FEET 0 .. 5 that with the most PURSES of all added behind d NIGHTS; of several the least");
        FootANight x = new FootANight();
        due("all sleep: FEET 0 is the least", x.feet(1), 0);
        x = creeping(4);
        due("a foot at 10 for one at 20", x.feet(1), 0);
        x.farm(0, 0, 0);
        due("one of no WIDTH sleeps", x.feet(1), 0);
        x.farm(0, 0, 1);
        x.farm(1, 0, 40);
        due("a foot at 20 for one at 5: all five", x.feet(1), 5);
        x.farm(0, 0, 7);
        x.farm(1, 0, 10);
        due("feet at 20 for feet at 20, from FEET 4 at 10", x.feet(1), 0);
        x.farm(1, 0, 12);
        // 20 - 10, 40 - 20, 60 - 40, 70 - 60, 80 - 80
        due("FEET 2 is as good as FEET 3", x.feet(1), 2);
        due("FEET is not told", x.look(19), 1);
        x = creeping(4);
        law(x, 3, "do 3 when wide < 6;", 1);
        x.farm(0, 0, 5);
        x.farm(1, 0, 60);
        x.set(3, 0);
        due("in one night five feet", x.feet(1), 5);
        due("in sixty nights five feet at once", x.feet(60), 5);
        x.set(9, 5);
        x.border(0, 0, 1);
        due("a WALL: FEET 0", x.feet(60), 0);
        x = new FootANight();
        for (int i = 0; i < 101; i++) {
            x.nights(99);
        }
        due("in thought beyond NIGHT 9999", x.feet(60), 0);
        law(x, 1, "do 3 when night > 9999;", 1);
        x.farm(0, 1, 1);
        x.farm(0, 0, 1);
        x.farm(1, 0, 40);
        due("in NIGHT 9999 nobody moves", x.feet(1), 0);
        due("in NIGHT 10000 it does", x.feet(2), 5);
    }

    private static void thoughts() {
        says("thought: NONE - 99999999 if one can't be (d NIGHTS 1 .. 60), or another what.");
        for (int what = 0; what < 4; what++) {
            int each = what;
            for (int d : new int[] {0, -1, LEAST, 61, MOST}) {
                refused("thought(" + d + ", " + what + ")", NO_NUMBER, y -> y.thought(d, each));
            }
            unchanged(4, "thought(1, " + what + ")", lived(4).thought(1, what), y -> y.thought(1, each));
            unchanged(4, "thought(60, " + what + ")", lived(4).thought(60, what), y -> y.thought(60, each));
        }
        for (int what : new int[] {-1, LEAST, 4, MOST}) {
            refused("thought(1, " + what + ")", NO_NUMBER, y -> y.thought(1, what));
        }
        says("NIGHT may be above 9999");
        FootANight x = new FootANight();
        law(x, 0, "do 3 when night > 9999;", 1);
        law(x, 1, "do 3 when night = 9999 + 59;", 1);
        tellAllBut(x, 1, 2, 0);
        for (int i = 0; i < 101; i++) {
            x.nights(99);
        }
        due("in NIGHT 9999 itself", x.thought(1, 1), 0);
        due("in NIGHT 10000", x.thought(2, 1), 1);
        due("in NIGHTS 10000 .. 10058", x.thought(60, 1), 10);
        x.farm(0, 1, 1);
        due("in NIGHTS up to 10057", x.thought(59, 1), 0);
        due("in NIGHT 10058", x.thought(60, 1), 1);
        due("no NIGHT went by", x.look(1), 9999);
        due("beyond NIGHT 9999", x.nights(1), NONE);
        says("what comes to PURSES, to MOVED, to CAUGHT (of all FARMS added), and how many FARMS are EATEN then");
        x = creeping(4);
        x.farm(2, 1, 3);
        x.farm(1, 3, 1);
        x.set(8, 1000);
        x.nights(2);
        // farm 2 moves farm 3 to 8; farm 0 is caught twice
        thoughtsAre(x, 1, 200 - 13 + 199 + 230 - 3 + 140, 1, 1, 0);
        thoughtsAre(x, 7, 7 * 186 + 7 * 200 + (230 + 290) * 7 / 2 - 21 + (140 + 20) * 7 / 2, 7, 7, 0);
        due("EATEN in the eighth", x.thought(8, 3), 1);
        due("MOVED", x.thought(9, 1), 8);
        x.nights(8);
        due("EATEN before", x.thought(1, 3), 1);
        due("nothing is MOVED", x.thought(60, 1), 0);
        due("CAUGHT each night", x.thought(60, 2), 60);
        thoughtsBelow();
    }

    private static void thoughtsBelow() {
        FootANight x = creeping(4);
        x.set(0, 0);
        x.set(1, 0);
        tellAllBut(x, 3, 1, -1);
        due("less comes to PURSES than goes", x.thought(1, 0), -7);
        due("and in sixty nights", x.thought(60, 0), -7 * 60 - 10 * x.thought(60, 2));
        x.set(3, 0);
        x.set(5, 0);
        x.set(6, 0);
        due("nothing comes", x.thought(60, 0), 0);
    }

    private static void thoughtsAre(FootANight x, int d, int purses, int moved, int caught, int eaten) {
        int[] all = {purses, moved, caught, eaten};
        for (int what = 0; what < 4; what++) {
            due("thought(" + d + ", " + what + ")", x.thought(d, what), all[what]);
        }
    }

    private static void images() {
        says("THE IMAGE is taken (true), or gone back to (false): true; false if there is none.");
        FootANight x = new FootANight();
        no("image(false)", x.image(false));
        always(x, 0, 1);
        x.nights(3);
        no("image(false)", x.image(false));
        due("nothing is changed", x.look(1), 3);
        due("nothing is changed", x.of(0, 8), 1);
        yes("image(true)", x.image(true));
        yes("image(false)", x.image(false));
        due("as it was", x.look(1), 3);
        says("all that is and was told .., as it was when it was taken; gone back to it may be more than once");
        for (int n : new int[] {2, 4, 7, 10}) {
            wentBack(n);
        }
        says("but the TAPE and fault()");
        x = new FootANight();
        put(x, "do 7;");
        x.text(0);
        put(x, "do 1;do 2;");
        x.image(true);
        put(x, "do x;");
        x.text(0);
        due("fault(0) ahead", x.fault(0), 1);
        put(x, "do 3;");
        yes("image(false)", x.image(false));
        due("fault(0)", x.fault(0), 1);
        due("fault(1)", x.fault(1), 3);
        no("end(6)", x.end(6));
        due("text(0)", x.text(0), 1);
        due("of(0, 8)", x.of(0, 8), 3);
        yes("image(false)", x.image(false));
        due("of(0, 8): no text then", x.of(0, 8), 0);
        says("as it was when it was taken");
        x = creeping(4);
        x.image(true);
        x.nights(1);
        x.image(true);
        x.nights(1);
        x.image(false);
        due("the later image", x.look(1), 1);
        yes("an image of what was gone back to", x.image(true));
        x.nights(5);
        x.image(false);
        due("the latest image", x.look(1), 1);
    }

    private static void wentBack(int n) {
        FootANight x = lived(n);
        x.image(true);
        List<Long> before = new ArrayList<>();
        lookAround(x, before);
        for (int i = 0; i < 2; i++) {
            for (int what = 0; what < 10; what++) {
                x.set(what, 3);
            }
            x.nights(2);
            for (int k = 0; k < 3; k++) {
                put(x, "do 1;");
                x.text(k);
            }
            x.farm(0, 0, 33);
            x.farm(0, 2, 9);
            x.farm(1, 3, 1);
            x.border(0, 0, 1);
            x.border(1, 1, 3);
            x.was(0, NONE);
            x.state(-9);
            if (i == 1) {
                x.ring(12 - n == n ? 3 : 12 - n);
            }
            yes("image(false)", x.image(false));
            List<Long> behind = new ArrayList<>();
            lookAround(x, behind);
            yes("all that is told of " + n, behind.equals(before));
        }
    }

    private static void looks() {
        says("What 0 n, 1 NIGHT, .. 4 FARMS that are EATEN, 10 + k what was told as set() k. NONE for another what.");
        for (int what : new int[] {-1, LEAST, 5, 6, 7, 8, 9, 20, 21, MOST, 4 - MOST}) {
            refused("look(" + what + ")", NONE, y -> y.look(what));
        }
        FootANight x = ring(2);
        x.farm(1, 0, 1);
        due("all WIDTHS added", x.look(3), 11);
        x.farm(0, 0, 0);
        x.farm(1, 0, 0);
        due("all WIDTHS added", x.look(3), 0);
        due("EATEN by night alone", x.look(4), 0);
        x.nights(1);
        due("EATEN, all", x.look(4), 2);
        x.ring(10);
        tellAllBut(x, 0, 60, -1);
        due("all WIDTHS added", x.look(3), 600);
        due("EATEN, none", x.look(4), 0);
        says("of: NONE - 99999999 if there is none such, or another what; stake: NONE - 1 if there is none such, or another what");
        for (int f : new int[] {-1, LEAST, 4, 9, 10, MOST}) {
            for (int what : new int[] {0, 3, 8}) {
                refused("of(" + f + ", " + what + ")", NO_NUMBER, y -> y.of(f, what));
                refused("stake(" + f + ", " + what + ")", NONE - 1, y -> y.stake(f, what));
            }
        }
        for (int what : new int[] {-1, LEAST, 9, 10, MOST}) {
            refused("of(0, " + what + ")", NO_NUMBER, y -> y.of(0, what));
        }
        for (int what : new int[] {-1, LEAST, 4, 5, MOST}) {
            refused("stake(0, " + what + ")", NONE - 1, y -> y.stake(0, what));
        }
    }

    /** What is asked changes nothing. */
    private static void questions() {
        says("Nothing is promised beyond the answers and state changes described above");
        for (int n : new int[] {2, 4, 6}) {
            FootANight z = lived(n);
            unchanged(n, "value(3, 0)", z.value(3, 0), y -> y.value(3, 0));
            unchanged(n, "reply(3, 0)", z.reply(3, 0), y -> y.reply(3, 0));
            unchanged(n, "rests(2)", z.rests(2), y -> y.rests(2));
            unchanged(n, "still()", z.still(), y -> y.still());
            unchanged(n, "walls(2, 0)", z.walls(2, 0), y -> y.walls(2, 0));
            unchanged(n, "pact(1, NONE)", z.pact(1, NONE), y -> y.pact(1, NONE));
            unchanged(n, "two(9, 900, 5, 0)", z.two(9, 900, 5, 0), y -> y.two(9, 900, 5, 0));
            unchanged(n, "judged()", z.judged(), y -> y.judged());
            unchanged(n, "feet(9)", z.feet(9), y -> y.feet(9));
            unchanged(n, "thought(9, 0)", z.thought(9, 0), y -> y.thought(9, 0));
            unchanged(n, "worth(50)", z.worth(50), y -> y.worth(50));
            unchanged(n, "of(1, 8)", z.of(1, 8), y -> y.of(1, 8));
        }
    }

    /** Runs all; how many answers were not due. */
    static int run() {
        quotients();
        states();
        rings();
        farms();
        borders();
        settings();
        worths();
        grammar();
        bindings();
        tokens();
        ints();
        faults();
        texts();
        tapes();
        doings();
        seenByTexts();
        nightsCounted();
        askedAhead();
        nothingMoves();
        stopped();
        pushes();
        moves();
        settled();
        rows();
        values();
        resting();
        standing();
        walled();
        pacts();
        duels();
        judges();
        feetOfLaw();
        thoughts();
        images();
        looks();
        questions();
        return wrong;
    }

    public static void main(String[] args) {
        run();
        System.out.println(sentences + " sentences, " + asked + " answers, " + wrong + " of them not as due");
        if (wrong != 0) {
            System.exit(1);
        }
    }
}
