/** One method a promise: ordinary inputs, the edges that the document names, and wrong inputs; answers worked out by hand. */
public final class PromiseTests {
    private static final int NO_NUMBER = -100000000;
    private static int wrong = 0;
    private static int asked = 0;
    private static String promise = "";

    private static void due(String call, long got, long want) {
        asked++;
        if (got != want) {
            wrong++;
            System.out.println(promise + ": " + call + " answered " + got + ", due is " + want);
        }
    }

    private static void yes(String call, boolean got) {
        due(call, got ? 1 : 0, 1);
    }

    private static void no(String call, boolean got) {
        due(call, got ? 1 : 0, 0);
    }

    /** Blanks fill the tape up to the next twenty bytes, and end() takes them away again. */
    private static void put(FootANight x, String text) {
        int[] five = new int[5];
        for (int from = 0; from < text.length(); from += 20) {
            for (int i = 0; i < 5; i++) {
                five[i] = 0;
                for (int j = 0; j < 4; j++) {
                    int at = from + 4 * i + j;
                    five[i] = five[i] << 8 | (at < text.length() ? text.charAt(at) : ' ');
                }
            }
            x.feed(five[0], five[1], five[2], five[3], five[4]);
        }
        yes("end of '" + text + "'", x.end(text.length()));
    }

    private static void law(FootANight x, int k, String text, int lines) {
        put(x, text);
        due("text(" + k + ") of '" + text + "'", x.text(k), lines);
        due("fault(0)", x.fault(0), 0);
        due("fault(1)", x.fault(1), -1);
    }

    private static void faulty(String text, int fault, int place) {
        FootANight x = new FootANight();
        put(x, text);
        due("text of '" + text + "'", x.text(0), -1);
        due("fault(0) of '" + text + "'", x.fault(0), fault);
        due("fault(1) of '" + text + "'", x.fault(1), place);
    }

    private static FootANight two() {
        FootANight x = new FootANight();
        x.ring(2);
        return x;
    }

    /** Farm 0 of four moves right for ever, the others sleep; nobody is stopped but by chance. */
    private static FootANight creeping() {
        FootANight x = new FootANight();
        law(x, 1, "do 3;", 1);
        x.farm(0, 1, 1);
        return x;
    }

    private static void newObject() {
        FootANight x = new FootANight();
        due("look(0)", x.look(0), 4);
        for (int f = 0; f < 4; f++) {
            int[] first = {10, 0, f, 0, 0, 99, 0, -1, 0};
            for (int what = 0; what < 9; what++) {
                due("of(" + f + ", " + what + ")", x.of(f, what), first[what]);
            }
            int[] stake = {0, 0, 0, -1};
            for (int what = 0; what < 4; what++) {
                due("stake(" + f + ", " + what + ")", x.stake(f, what), stake[what]);
            }
        }
        due("NONE", FootANight.NONE, -1);
        due("end(0)", x.end(0) ? 1 : 0, 1);
        no("end(1)", x.end(1));
        no("image(false)", x.image(false));
        due("judged", x.judged(), -1);
    }

    private static void stateTold() {
        FootANight x = new FootANight();
        due("state(7)", x.state(7), 0);
        due("state(MIN)", x.state(Integer.MIN_VALUE), 7);
        due("state(0)", x.state(0), Integer.MIN_VALUE);
        // one draw: 1013904223's highest 24 bits are 3960563, by 1000 563
        x = creeping();
        x.farm(1, 3, 1);
        x.set(8, 564);
        x.nights(1);
        due("stopped by 563 below 564", x.of(0, 6), 1);
        due("state(0) behind a draw", x.state(0), 1013904223);
        x.set(8, 563);
        x.nights(1);
        due("not stopped by 563", x.of(0, 6), 1);
        due("moved", x.look(2), 1);
        x.state(1);
        x.nights(1);
        due("state behind a draw from 1", x.state(0), 1664525 + 1013904223);
    }

    private static void ringTold() {
        FootANight x = new FootANight();
        no("ring(1)", x.ring(1));
        no("ring(11)", x.ring(11));
        no("ring(-2)", x.ring(-2));
        law(x, 1, "do 3;", 1);
        x.farm(0, 1, 1);
        x.farm(1, 0, 1);
        x.farm(2, 2, 7);
        x.farm(2, 3, 1);
        x.border(2, 0, 1);
        x.border(3, 1, 2);
        x.set(0, 21);
        x.set(3, 1);
        x.set(7, 3);
        x.set(9, 2);
        x.was(0, 10);
        x.was(1, 10);
        x.nights(2);
        x.state(77);
        yes("ring(10)", x.ring(10));
        due("n", x.look(0), 10);
        due("NIGHT stays", x.look(1), 2);
        due("MOVED stays", x.look(2), 1);
        due("widths", x.look(3), 100);
        due("eaten", x.look(4), 0);
        due("FIRST stays", x.look(10), 21);
        due("WORK stays", x.look(13), 1);
        due("STOP stays", x.look(17), 3);
        due("FEET stays", x.look(19), 2);
        for (int f = 0; f < 10; f++) {
            int[] first = {10, 0, f, 0, 0, 99, 0, -1, 0};
            for (int what = 0; what < 9; what++) {
                due("of(" + f + ", " + what + ")", x.of(f, what), first[what]);
            }
            int[] stake = {0, 0, 0, -1};
            for (int what = 0; what < 4; what++) {
                due("stake(" + f + ", " + what + ")", x.stake(f, what), stake[what]);
            }
        }
        yes("the text stays", x.farm(9, 1, 1));
        due("of(9, 8)", x.of(9, 8), 3);
        yes("ring(2)", x.ring(2));
        due("judged: nothing is told any more", x.judged(), -1);
        x.was(0, 10);
        due("judged: one is told", x.judged(), -1);
        x.was(1, 10);
        due("judged: both are told", x.judged(), 0);
        due("of(2, 0)", x.of(2, 0), NO_NUMBER);
    }

    private static void farmTold() {
        FootANight x = new FootANight();
        int[] most = {60, 3, 9, 1};
        for (int what = 0; what < 4; what++) {
            yes("farm(3, " + what + ", most)", x.farm(3, what, most[what]));
            due("of(3, " + what + ")", x.of(3, what), most[what]);
            no("farm above", x.farm(3, what, most[what] + 1));
            no("farm below", x.farm(3, what, -1));
            due("of(3, " + what + ") as it was", x.of(3, what), most[what]);
            yes("farm(3, " + what + ", 0)", x.farm(3, what, 0));
            due("of(3, " + what + ")", x.of(3, what), 0);
            no("farm(4, ..)", x.farm(4, what, 0));
            no("farm(-1, ..)", x.farm(-1, what, 0));
        }
        no("farm(0, 4, 0)", x.farm(0, 4, 0));
        no("farm(0, 8, 0)", x.farm(0, 8, 0));
        no("farm(0, -1, 0)", x.farm(0, -1, 0));
        due("PURSE is not told", x.of(0, 4), 0);
    }

    private static void borderTold() {
        FootANight x = creeping();
        x.border(0, 1, 3);
        x.nights(2);
        due("PUSH", x.stake(0, 2), 2);
        no("HEAVY 4", x.border(0, 1, 4));
        no("HEAVY -1", x.border(0, 1, -1));
        no("WALL 2", x.border(0, 0, 2));
        no("WALL -1", x.border(0, 0, -1));
        no("another what", x.border(0, 2, 0));
        no("another what", x.border(0, -1, 0));
        no("no such border", x.border(4, 0, 0));
        no("no such border", x.border(-1, 0, 0));
        due("PUSH as it was", x.stake(0, 2), 2);
        yes("HEAVY 3", x.border(0, 1, 3));
        due("PUSH is 0", x.stake(0, 2), 0);
        due("who pushed last stays", x.stake(0, 3), 0);
        x.nights(1);
        due("PUSH is 1", x.stake(0, 2), 1);
        yes("WALL 0", x.border(0, 0, 0));
        due("PUSH is 0", x.stake(0, 2), 0);
        yes("WALL 1", x.border(0, 0, 1));
        due("WALL", x.stake(0, 0), 1);
        due("HEAVY", x.stake(0, 1), 3);
        due("the other border's WALL", x.stake(1, 0), 0);
    }

    private static void settingTold() {
        FootANight x = new FootANight();
        int[] first = {20, 10, 5, 3, 5, 1, 10, 900, 300, 1};
        int[] most = {99, 99, 99, 99, 99, 99, 99, 1000, 1000, 5};
        for (int k = 0; k < 10; k++) {
            due("look(1" + k + ")", x.look(10 + k), first[k]);
            no("set above", x.set(k, most[k] + 1));
            no("set below", x.set(k, -1));
            due("look(1" + k + ") as it was", x.look(10 + k), first[k]);
            yes("set most", x.set(k, most[k]));
            due("look(1" + k + ")", x.look(10 + k), most[k]);
            yes("set 0", x.set(k, 0));
            due("look(1" + k + ")", x.look(10 + k), 0);
        }
        no("set(10, 0)", x.set(10, 0));
        no("set(-1, 0)", x.set(-1, 0));
    }

    private static void worthAsked() {
        FootANight x = new FootANight();
        int[][] pairs = {{0, 0}, {1, 20}, {10, 200}, {11, 210}, {30, 400}, {31, 405}, {60, 550}, {600, 3250},
            {-1, -1}, {601, -1}, {Integer.MIN_VALUE, -1}, {Integer.MAX_VALUE, -1}};
        for (int[] pair : pairs) {
            due("worth(" + pair[0] + ")", x.worth(pair[0]), pair[1]);
        }
        x.set(0, 1);
        x.set(1, 2);
        x.set(2, 3);
        due("worth(9)", x.worth(9), 9);
        due("worth(12)", x.worth(12), 14);
        due("worth(40)", x.worth(40), 80);
    }

    private static void tapeFed() {
        FootANight x = new FootANight();
        for (int i = 1; i <= 20; i++) {
            due("feed", x.feed(0x20202020, 0x20202020, 0x20202020, 0x20202020, 0x20202020), 20 * i);
        }
        due("feed beyond 400", x.feed(1, 2, 3, 4, 5), -1);
        due("text of 400 blanks", x.text(0), 0);
        due("feed of an empty tape", x.feed(0, 0, 0, 0, 0), 20);
        yes("end(0)", x.end(0));
        for (int i = 1; i <= 19; i++) {
            x.feed(0x20202020, 0x20202020, 0x20202020, 0x20202020, 0x20202020);
        }
        x.feed(0x646F2033, 0x3B202020, 0x20202020, 0x20202020, 0x646F2032);
        due("feed beyond 400", x.feed(0x3B202020, 0, 0, 0, 0), -1);
        due("nothing came: the text ends behind 2", x.text(0), -1);
        due("fault", x.fault(0), 1);
        due("place", x.fault(1), 400);
        // all bytes, the highest first, those above 127 too
        x.feed(0x646F2032, 0x3B202020, 0x202020FF, 0x20202020, 0x20202020);
        due("a byte 255", x.text(0), -1);
        due("place", x.fault(1), 11);
        for (int i = 1; i <= 19; i++) {
            x.feed(0x20202020, 0x20202020, 0x20202020, 0x20202020, 0x20202020);
        }
        due("380 and 20 are 400", x.feed(0, 0, 0, 0, 0), 400);
        yes("end(381)", x.end(381));
        due("381 and 20 are above 400", x.feed(0, 0, 0, 0, 0), -1);
    }

    private static void tapeEnded() {
        FootANight x = new FootANight();
        yes("end(0)", x.end(0));
        no("end(1)", x.end(1));
        x.feed(0x646F2033, 0x3B7A7A7A, 0, 0, 0);
        no("end(21)", x.end(21));
        no("end(-1)", x.end(-1));
        no("end(MIN)", x.end(Integer.MIN_VALUE));
        yes("end(20)", x.end(20));
        yes("end(5)", x.end(5));
        no("end(6)", x.end(6));
        due("text(0)", x.text(0), 1);
        due("of(0, 8)", x.of(0, 8), 3);
        no("the tape is empty", x.end(1));
        x.feed(0x20202020, 0, 0, 0, 0);
        x.end(3);
        due("feed behind three", x.feed(0, 0, 0, 0, 0), 23);
    }

    private static void textRead() {
        FootANight x = new FootANight();
        law(x, 0, "", 0);
        law(x, 0, " \n ", 0);
        law(x, 1, "do 1;", 1);
        law(x, 2, "do 1 when hit < 5; do\n0003;", 2);
        law(x, 3, "do1;do2when wide=10;do 3when(wide<3or wide>4)and not night=9999;", 3);
        x.farm(0, 1, 1);
        due("of(0, 8)", x.of(0, 8), 1);
        put(x, "do 2");
        due("a FAULT", x.text(1), -1);
        due("the text stays", x.of(0, 8), 1);
        no("the tape is empty", x.end(1));
        due("fault", x.fault(0), 1);
        put(x, "do 2");
        due("no such text", x.text(4), -1);
        due("fault() tells 0", x.fault(0), 0);
        due("fault() tells no place", x.fault(1), -1);
        no("the tape is empty", x.end(1));
        put(x, "do 2;");
        due("no such text", x.text(-1), -1);
        no("the tape is empty", x.end(1));
        law(x, 1, "", 0);
        due("an empty text: sleep", x.of(0, 8), 0);
        StringBuilder many = new StringBuilder();
        for (int i = 0; i < 16; i++) {
            many.append("do 0 when 0=1;");
        }
        law(x, 1, many.toString(), 16);
        law(x, 1, "do 1 when not not not not ((((1=1))));", 1);
        due("of(0, 8)", x.of(0, 8), 1);
        law(x, 1, "do 1 when ((((((((1=1)))))))) and ((((((((1=2)))))))) or not not not not not not not not 1=1;", 1);
        due("of(0, 8)", x.of(0, 8), 1);
        law(x, 1, "do 1 when (1=1)and(1=1)and(1=1)and(1=1)and(1=1)and(1=1)and(1=1)and(1=1)and(1=1)and(1=1);", 1);
        law(x, 1, "do 1 when wide=1 or lwide=1 or rwide=1 or gain=1 or loss=1 or night=1 or hit=1 or dog=1 or ldog=1"
            + " or rdog=1 or lkin=1 or rkin=1 or lwall=1 or rwall=1 or purse=1;", 1);
    }

    private static void faultsTold() {
        FootANight x = new FootANight();
        due("fault(0)", x.fault(0), 0);
        due("fault(1)", x.fault(1), -1);
        due("fault(2)", x.fault(2), -1);
        due("fault(-1)", x.fault(-1), -1);
        faulty("do", 1, 2);
        faulty("do  ", 1, 4);
        faulty("do 4;", 2, 3);
        faulty("do 9999", 2, 3);
        faulty("do 04;", 2, 3);
        faulty("do 00000;", 1, 3);
        faulty("do 12345;", 1, 3);
        faulty("DO 1;", 1, 0);
        faulty("do 1;;", 1, 5);
        faulty("do 1 do 2;", 1, 5);
        faulty("do 1; dot 2;", 1, 6);
        faulty("do 1 when;", 1, 9);
        faulty("do 1 when 1;", 1, 11);
        faulty("do 1 when 1 = ;", 1, 14);
        faulty("do 1 when 1 = 1", 1, 15);
        faulty("do 1 when 1 = 1 = 1;", 1, 16);
        faulty("do 1 when (1 = 1;", 1, 16);
        faulty("do 1 when (1) = 1;", 1, 12);
        faulty("do 1 when 1 = 1);", 1, 15);
        faulty("do 1 when 1 = 1 and;", 1, 19);
        faulty("do 1 when 1 = 1 or or;", 1, 19);
        faulty("do 1 when 1 + = 1;", 1, 14);
        faulty("do 1 when - 1 = 1;", 1, 10);
        faulty("do 1 when 1 / 0 = 1;", 2, 14);
        faulty("do 1 when 1 / 0000 = 1;", 2, 14);
        faulty("do 1 when 1 / wide = 1;", 1, 14);
        faulty("do 1 when 1 / (1) = 1;", 1, 14);
        faulty("do 1 when 1 * 0 / 3 / 0;", 2, 22);
        faulty("do 1 when 0 / 10000 = 1;", 1, 14);
        faulty("do 1 when wide & 1;", 1, 15);
        faulty("do 1 when wides = 1;", 1, 10);
        faulty("do 1 when Wide = 1;", 1, 10);
        // letters as many as stand together, from the first to the last
        for (char letter : new char[] {'a', 'z', 'A', 'Z'}) {
            faulty("do 1 when wide" + letter + " = 1;", 1, 10);
        }
        for (char other : new char[] {'@', '[', '`', '{', 0, 255}) {
            faulty("do 1 when wide" + other + " = 1;", 1, 14);
        }
        faulty("do 1 when when = 1;", 1, 10);
        faulty("do 1 when wide < not 1;", 1, 17);
        faulty("do 1\twhen 1=1;", 1, 4);
        faulty("do 1 when 1<=1;", 1, 12);
        faulty("do 1, do 2;", 1, 4);
        faulty("do 1. ", 1, 4);
        faulty("do 1: ", 1, 4);
        faulty("do 1? ", 1, 4);
        faulty("do 1' ", 1, 4);
        faulty("1", 1, 0);
        faulty("do 1 when (((((((((1=1", 3, 18);
        faulty("do 1 when ((((((((not 1=1", 3, 18);
        faulty("do 1 when not(not(not(not(not 1=1", 3, 26);
        faulty("do 1 when 1=1 and not not not not not not not not (1=1);", 3, 50);
        StringBuilder many = new StringBuilder();
        for (int i = 0; i < 16; i++) {
            many.append("do 1;");
        }
        faulty(many + " do", 3, 81);
        faulty(many + " do 4", 3, 81);
        faulty(many + " dog", 1, 81);
        faulty(many + ";", 1, 80);
        // by place, not by the least: the part by 0 stands ahead of the 17th line
        faulty("do 1 when 1/0=1;" + many, 2, 12);
        put(x, "do 1;");
        x.text(0);
        due("fault(0) without one", x.fault(0), 0);
        due("fault(1) without one", x.fault(1), -1);
    }

    private static int done(FootANight x, int f, String condition) {
        put(x, "do 2 when " + condition + ";");
        due("text of " + condition, x.text(3), 1);
        x.farm(f, 1, 3);
        return x.of(f, 8);
    }

    private static void so(FootANight x, String condition) {
        due(condition, done(x, 0, condition), 2);
    }

    private static void notSo(FootANight x, String condition) {
        due(condition, done(x, 0, condition), 0);
    }

    private static void farmAsked() {
        FootANight x = new FootANight();
        due("of(-1, 0)", x.of(-1, 0), NO_NUMBER);
        due("of(4, 0)", x.of(4, 0), NO_NUMBER);
        due("of(0, -1)", x.of(0, -1), NO_NUMBER);
        due("of(0, 9)", x.of(0, 9), NO_NUMBER);
        x.farm(0, 0, 35);
        x.farm(3, 0, 7);
        x.farm(1, 0, 13);
        x.farm(0, 2, 3);
        x.farm(1, 3, 1);
        x.border(3, 0, 1);
        x.set(9, 4);
        so(x, "wide = 35 and lwide = 7 and rwide = 13");
        so(x, "gain = 20 and loss = 20");
        so(x, "night = 0 and hit = 99");
        so(x, "dog = 0 and ldog = 0 and rdog = 1");
        so(x, "lkin = 1 and rkin = 0");
        so(x, "lwall = 1 and rwall = 0");
        so(x, "purse = 0");
        x.farm(0, 0, 3);
        so(x, "gain = 80 and loss = 60");
        x.farm(0, 0, 28);
        so(x, "gain = 30");
        so(x, "2 + 3 * 4 = 14");
        so(x, "20 - 5 - 3 = 12");
        so(x, "7 / 2 * 2 = 6");
        so(x, "0 - 7 / 2 = 0 - 3");
        so(x, "1 - 8 < 0 and wide - 35 = 0 - 7");
        // 99980001 times 22 wraps to -2095407274, and the quotient goes towards 0
        notSo(x, "9999 * 9999 * 22 > 0");
        so(x, "9999 * 9999 * 22 / 1000 = 0 - 2095 * 1000 - 407");
        notSo(x, "wide < 28");
        notSo(x, "wide > 28");
        so(x, "not wide < 28 and not wide > 28");
        so(x, "1 = 2 and 1 = 2 or 1 = 1");
        notSo(x, "1 = 2 and (1 = 2 or 1 = 1)");
        so(x, "1 = 1 or 1 = 1 and 1 = 2");
        notSo(x, "not 1 = 1 or 1 = 2");
        notSo(x, "not (1 = 1 or 1 = 2)");
        so(x, "not 1 = 2 and 1 = 1");
        law(x, 3, "do 1 when wide < 5; do 2 when wide < 28; do 3 when wide = 28; do 1;", 4);
        due("the third line", x.of(0, 8), 3);
        x.farm(0, 0, 27);
        due("the second line", x.of(0, 8), 2);
        x.farm(0, 0, 4);
        due("the first line", x.of(0, 8), 1);
        x.farm(0, 0, 60);
        due("the last line", x.of(0, 8), 1);
        x.farm(0, 0, 0);
        due("nothing, if its WIDTH is 0", x.of(0, 8), 0);
        x = two();
        x.farm(1, 0, 4);
        x.border(1, 0, 1);
        so(x, "lwide = 4 and rwide = 4 and lwall = 1 and rwall = 0");
        x.farm(0, 1, 0);
        due("of farm 1", done(x, 1, "lwide = 10 and rwide = 10 and lwall = 0 and rwall = 1"), 2);
    }

    private static void towardsZero() {
        FootANight x = new FootANight();
        // PURSE below 0: caught each night, work and no worth
        law(x, 1, "do 3;", 1);
        law(x, 2, "do 1;", 1);
        x.farm(0, 1, 1);
        x.farm(1, 1, 2);
        x.set(0, 0);
        x.set(7, 1000);
        x.nights(1);
        due("PURSE", x.of(0, 4), -13);
        so(x, "purse = 0 - 13 and purse / 2 = 0 - 6 and purse / 14 = 0");
    }

    private static void stakeAsked() {
        FootANight x = creeping();
        due("stake(4, 0)", x.stake(4, 0), -2);
        due("stake(-1, 0)", x.stake(-1, 0), -2);
        due("stake(0, 4)", x.stake(0, 4), -2);
        due("stake(0, -1)", x.stake(0, -1), -2);
        x.border(0, 1, 2);
        x.nights(1);
        due("WALL", x.stake(0, 0), 0);
        due("HEAVY", x.stake(0, 1), 2);
        due("PUSH", x.stake(0, 2), 1);
        due("who", x.stake(0, 3), 0);
        due("another's who", x.stake(1, 3), -1);
        x.border(3, 0, 1);
        due("WALL", x.stake(3, 0), 1);
    }

    private static void nightsPassed() {
        FootANight x = creeping();
        due("nights(0)", x.nights(0), -1);
        due("nights(100)", x.nights(100), -1);
        due("nights(-1)", x.nights(-1), -1);
        due("nothing is done", x.look(1), 0);
        due("nights(3)", x.nights(3), 3);
        due("NIGHT", x.look(1), 3);
        due("WIDTH", x.of(0, 0), 13);
        due("WIDTH", x.of(1, 0), 7);
        due("PURSE", x.of(0, 4), 210 + 220 + 230 - 9);
        due("PURSE", x.of(1, 4), 180 + 160 + 140);
        due("HIT", x.of(1, 5), 0);
        due("HIT", x.of(0, 5), 99);
        due("nights(9)", x.nights(9), 7);
        due("EATEN in", x.of(1, 7), 9);
        due("HIT", x.of(1, 5), 2);
        due("WORK for nothing", x.of(0, 4), 651 + 240 + 250 + 260 + 270 + 280 + 290 + 300 + 300 + 300 - 27);
        due("MOVED", x.look(2), 10);
        due("nights(99)", x.nights(99), 0);
        due("HIT at most", x.of(1, 5), 99);
        due("EATEN stays", x.of(1, 7), 9);
        due("no STATE is drawn", x.state(0), 0);
        nightsOfHeavyStakes();
        nightsOfWatching();
        nightsAtTheEnd();
        nightsFarmByFarm();
    }

    private static void nightsOfHeavyStakes() {
        FootANight x = two();
        law(x, 1, "do 3;", 1);
        law(x, 2, "do 2;", 1);
        x.farm(0, 1, 1);
        x.border(0, 1, 2);
        due("two pushes", x.nights(2), 0);
        due("PUSH", x.stake(0, 2), 2);
        due("the third", x.nights(1), 1);
        due("PUSH", x.stake(0, 2), 0);
        x.nights(1);
        x.farm(0, 1, 0);
        x.farm(1, 1, 2);
        x.nights(1);
        due("another one pushed last: 1", x.stake(0, 2), 1);
        due("who", x.stake(0, 3), 1);
        x.nights(2);
        due("WIDTH", x.of(0, 0), 10);
        x.farm(0, 1, 1);
        x.nights(2);
        due("both push against each other: 1 for ever", x.stake(0, 2), 1);
        due("farm 1 was the last", x.stake(0, 3), 1);
        x = new FootANight();
        law(x, 1, "do 3;", 1);
        law(x, 2, "do 1;", 1);
        x.farm(0, 1, 1);
        x.border(0, 1, 3);
        x.nights(2);
        x.farm(1, 1, 2);
        x.set(7, 1000);
        x.nights(1);
        due("stopped: PUSH is 0", x.stake(0, 2), 0);
        due("CAUGHT", x.of(0, 6), 1);
        x.farm(1, 1, 0);
        x.nights(1);
        due("PUSH is one more than 0", x.stake(0, 2), 1);
        x = new FootANight();
        law(x, 1, "do 2;", 1);
        x.farm(0, 1, 1);
        x.set(9, 4);
        due("the left border", x.nights(1), 4);
        due("the left one is narrower", x.of(3, 0), 6);
        due("its border is the last", x.stake(3, 3), 0);
        due("at most the width", x.nights(2), 6);
        due("WIDTH", x.of(0, 0), 20);
        x = creeping();
        x.border(0, 0, 1);
        due("a WALL", x.nights(5), 0);
        x.border(0, 0, 0);
        x.set(9, 0);
        due("FEET 0", x.nights(5), 0);
        due("who pushed last", x.stake(0, 3), -1);
        due("PURSE", x.of(0, 4), 10 * 197);
    }

    private static void nightsOfWatching() {
        FootANight x = creeping();
        law(x, 2, "do 1;", 1);
        x.farm(1, 1, 2);
        x.farm(1, 3, 1);
        x.set(7, 0);
        x.set(8, 1000);
        due("one that watches: its DOG does not bark", x.nights(1), 1);
        due("one draw", x.state(0), 1013904223);
        due("PURSE of one that watches, with a dog", x.of(1, 4), 180 - 5 - 1);
        x.farm(1, 1, 0);
        due("the DOG barks", x.nights(1), 0);
        due("PURSE: the FINE", x.of(0, 4), 207 + 210 - 3 - 10);
        due("one draw", x.state(0), 1013904223);
        due("PURSE of one with a dog", x.of(1, 4), 174 + 180 - 1);
        x.farm(1, 3, 0);
        x.nights(1);
        due("no draw", x.state(0), 0);
        x.farm(1, 0, 0);
        x.farm(1, 3, 1);
        x.nights(1);
        due("no draw against a width of 0", x.state(0), 0);
        due("a dog eats on", x.of(1, 4), 353 + 160 - 1);
    }

    private static void nightsAtTheEnd() {
        FootANight x = new FootANight();
        for (int i = 0; i < 101; i++) {
            x.nights(99);
        }
        due("NIGHT 9999", x.look(1), 9999);
        due("beyond", x.nights(1), -1);
        x = new FootANight();
        for (int i = 0; i < 100; i++) {
            x.nights(99);
        }
        x.nights(50);
        due("beyond by one", x.nights(50), -1);
        due("nothing is done", x.look(1), 9950);
        due("just not beyond", x.nights(49), 0);
        due("in thought beyond", x.thought(60, 0), 4 * 60 * 200);
        so(x, "night = 9999");
    }

    private static void nightsFarmByFarm() {
        // farm 0 eats farm 1 whole, and farm 1, asked ahead, still moves its right border by a foot
        FootANight x = new FootANight();
        law(x, 1, "do 3;", 1);
        x.farm(0, 1, 1);
        x.farm(1, 1, 1);
        x.farm(1, 0, 1);
        due("two feet", x.nights(1), 2);
        due("WIDTH of 0", x.of(0, 0), 11);
        due("WIDTH of 1", x.of(1, 0), 1);
        due("WIDTH of 2", x.of(2, 0), 9);
        due("not EATEN", x.of(1, 7), -1);
        due("but HIT", x.of(1, 5), 0);
        // all are asked ahead: farm 1 watches by its width before farm 0 has moved
        x = new FootANight();
        law(x, 1, "do 3;", 1);
        law(x, 2, "do 2 when wide < 10;", 1);
        x.farm(0, 1, 1);
        x.farm(1, 1, 2);
        due("one foot", x.nights(1), 1);
        due("then each one: a foot there, a foot back", x.nights(1), 2);
        due("WIDTH", x.of(0, 0), 11);
        due("a farm above 60", widest(), 70);
    }

    private static int widest() {
        FootANight x = creeping();
        x.farm(0, 0, 60);
        x.set(9, 5);
        x.nights(2);
        due("no farm of it is told above 60", x.farm(0, 0, 61) ? 1 : 0, 0);
        return x.of(0, 0);
    }

    private static void valuesAsked() {
        FootANight x = new FootANight();
        due("value(256, 0)", x.value(256, 0), NO_NUMBER);
        due("value(-1, 0)", x.value(-1, 0), NO_NUMBER);
        due("value(0, 4)", x.value(0, 4), NO_NUMBER);
        due("value(0, -1)", x.value(0, -1), NO_NUMBER);
        due("farm 0 right: FARM 0 is the highest digit", x.value(3 * 64, 0), 7000);
        due("farm 1 loses", x.value(3 * 64, 1), -20000);
        due("farm 3 does not", x.value(3 * 64, 3), 0);
        due("farm 3 moves right, farm 0 loses", x.value(3, 0), -20000);
        due("farm 3 right", x.value(3, 3), 7000);
        due("all watch", x.value(64 + 16 + 4 + 1, 2), -5000);
        due("watched: c 100", x.value(3 * 64 + 16, 0), 1000 - 9000 - 3000);
        due("the watcher", x.value(3 * 64 + 16, 1), -2000 - 5000);
        x.farm(1, 3, 1);
        due("a dog: c 700", x.value(3 * 64, 0), 7000 - 3000 - 3000);
        due("the dog's farm", x.value(3 * 64, 1), -14000 - 1000);
        due("a dog that watches: c 100", x.value(3 * 64 + 16, 0), -11000);
        x.border(0, 1, 2);
        due("HEAVY 2: c 233", x.value(3 * 64, 0), 2330 - 7670 - 3000);
        due("HEAVY 2: c 33 of a watcher", x.value(3 * 64 + 16, 1), -660 - 5000 - 1000);
        x.border(0, 0, 1);
        due("a WALL: WORK alone", x.value(3 * 64, 0), -3000);
        due("a WALL: the dog alone", x.value(3 * 64, 1), -1000);
        x.farm(2, 0, 2);
        x.set(9, 5);
        due("d is the less of FEET and the neighbour's width", x.value(3 * 16, 1), 2 * 10000 - 3000 - 1000);
        due("d of the loser", x.value(3 * 16, 2), -40000);
        due("d is FEET", x.value(3, 0), -100000);
        x.farm(2, 0, 0);
        due("the neighbour's width 0", x.value(3 * 16, 1), -4000);
        due("a width of 0 that moves", x.value(2 * 4, 2), -3000);
        due("a width of 0 that is moved against", x.value(3 * 16, 2), 0);
        due("a loser's width 0", x.value(2 * 4, 1), -1000);
        x.set(9, 0);
        due("FEET 0", x.value(3, 3), -3000);
        x = new FootANight();
        due("from both sides", x.value(3 * 64 + 2 * 4, 1), -40000);
        x.ring(10);
        due("the last row", x.value((1 << 20) - 1, 0), 10000 - 3000 - 20000);
        due("no such row", x.value(1 << 20, 0), NO_NUMBER);
        x = two();
        due("left: the other border", x.value(2 * 4, 1), -20000);
        due("both in one ring of two, at two borders", x.value(2 * 4 + 2, 0), 10000 - 3000 - 20000);
        due("no such row", x.value(16, 0), NO_NUMBER);
    }

    private static void repliesAsked() {
        FootANight x = new FootANight();
        due("reply(256, 0)", x.reply(256, 0), -1);
        due("reply(-1, 0)", x.reply(-1, 0), -1);
        due("reply(0, 4)", x.reply(0, 4), -1);
        due("reply(0, -1)", x.reply(0, -1), -1);
        due("of several the least", x.reply(0, 0), 2);
        due("its own digit does not count", x.reply(3 * 64, 0), 2);
        due("left watched", x.reply(1, 0), 3);
        due("both watched", x.reply(16 + 1, 0), 0);
        due("moved against: watch spares 18 for 5, to move is 7", x.reply(3, 0), 1);
        x.set(4, 99);
        due("watching is dear", x.reply(3, 0), 2);
        x.set(3, 10);
        due("nothing is worth it: of several the least", x.reply(0, 0), 0);
        x = two();
        due("of two: farm 1's reply", x.reply(0, 1), 2);
        x.border(0, 0, 1);
        due("of two with a wall at the left of farm 1", x.reply(0, 1), 3);
    }

    private static void restsAsked() {
        FootANight x = new FootANight();
        due("rests(4)", x.rests(4), -1);
        due("rests(-1)", x.rests(-1), -1);
        x.ring(7);
        due("rests(0) of 7", x.rests(0), -1);
        due("rests(3) of 7", x.rests(3), -1);
        x.ring(6);
        x.set(9, 0);
        due("one rest: all sleep", x.rests(0), 1);
        due("the first", x.rests(1), 0);
        due("the most", x.rests(2), 0);
        due("alike", x.rests(3), 1);
        x.set(3, 0);
        x.set(4, 0);
        due("all rows rest", x.rests(0), 4096);
        due("the first", x.rests(1), 0);
        due("the most: the first of all", x.rests(2), 0);
        due("alike: all four", x.rests(3), 15);
        x = two();
        due("none", x.rests(0), 0);
        due("no first", x.rests(1), -1);
        due("no most", x.rests(2), -1);
        due("none alike", x.rests(3), 0);
        // nobody can watch with a gain: all move; both left, both right, and each at either border
        x.set(4, 99);
        due("four rests", x.rests(0), 4);
        due("the first", x.rests(1), 2 * 4 + 2);
        due("the most: all are alike", x.rests(2), 10);
        due("alike: left and right", x.rests(3), 12);
        x.border(0, 0, 1);
        due("one rest at the other border", x.rests(0), 1);
        due("the first", x.rests(1), 2 * 4 + 3);
        due("none alike", x.rests(3), 0);
        // farm 0 takes as much from either neighbour, but farm 2 loses 20 a foot and farm 1 loses 10
        x.ring(3);
        x.border(1, 0, 1);
        x.farm(0, 0, 15);
        x.farm(1, 0, 12);
        x.farm(2, 0, 8);
        due("two rests", x.rests(0), 2);
        due("the first", x.rests(1), 2 * 16 + 2 * 4 + 3);
        due("the most", x.rests(2), 3 * 16 + 2 * 4 + 3);
        due("none alike", x.rests(3), 0);
    }

    private static void stillAsked() {
        FootANight x = new FootANight();
        due("every other one", x.still(), 5);
        x.ring(3);
        due("one of three is not enough", x.still(), 3);
        x.ring(5);
        due("three of five", x.still(), 1 + 2 + 8);
        x.ring(10);
        due("five of ten", x.still(), 1 + 4 + 16 + 64 + 256);
        x.set(3, 10);
        due("nobody would move", x.still(), 0);
        x.set(3, 0);
        x.set(6, 0);
        due("watching does not help: all must", x.still(), 1023);
        // stopped for certain and without a cost: no greater VALUE against one that watches
        x.ring(4);
        x.set(7, 1000);
        due("an equal VALUE is not a greater one", x.still(), 5);
        x.set(7, 900);
        x = two();
        x.farm(0, 0, 0);
        due("nothing to take", x.still(), 0);
        x.farm(0, 0, 1);
        x.farm(1, 0, 60);
        due("one farm of two", x.still(), 1);
        x.set(2, 0);
        due("the wide one has nothing to gain", x.still(), 1);
        x.set(0, 99);
        x.set(6, 0);
        due("the narrow one gains even if watched", x.still(), 1);
        x.farm(0, 0, 60);
        x.farm(1, 0, 1);
        due("the other way round", x.still(), 2);
    }

    private static void wallsAsked() {
        FootANight x = new FootANight();
        due("walls(-1, 0)", x.walls(-1, 0), -1);
        due("walls(3, 0)", x.walls(3, 0), -1);
        due("walls(0, 2)", x.walls(0, 2), -1);
        due("walls(0, -1)", x.walls(0, -1), -1);
        due("none", x.walls(0, 0), 0);
        due("two watch", x.walls(0, 1), 2);
        due("one does not spare", x.walls(1, 0), 0);
        due("two watch", x.walls(1, 1), 2);
        due("two spare one", x.walls(2, 0), 3);
        due("one watches", x.walls(2, 1), 1);
        due("no wall stays", x.stake(0, 0), 0);
        x.border(1, 0, 1);
        due("one has a wall: not built again", x.walls(1, 0), 1);
        due("one watches", x.walls(1, 1), 1);
        x.border(0, 0, 1);
        x.border(2, 0, 1);
        due("the last", x.walls(2, 0), 8);
        due("none watches", x.walls(2, 1), 0);
        x.border(3, 0, 1);
        due("nothing to build", x.walls(2, 0), 0);
        due("none watches", x.walls(2, 1), 0);
        x = two();
        due("both walls", x.walls(2, 0), 3);
        due("one wall does not spare", x.walls(1, 0), 0);
        x.ring(3);
        due("three: one wall spares one", x.walls(1, 0), 1);
        due("three: one watches", x.walls(1, 1), 1);
        due("three: two walls spare no more", x.walls(2, 0), 1);
    }

    private static void pactsAsked() {
        FootANight x = new FootANight();
        due("pact(4, 0)", x.pact(4, 0), -1);
        due("pact(-1, 0)", x.pact(-1, 0), -1);
        due("pact(0, 1000)", x.pact(0, 1000), -1);
        due("pact(0, -2)", x.pact(0, -2), -1);
        due("least", x.pact(0, -1), 350);
        due("349", x.pact(0, 349), 0);
        due("350", x.pact(0, 350), 1);
        due("999", x.pact(0, 999), 1);
        due("farm 3 with farm 0", x.pact(3, -1), 350);
        x.border(3, 0, 1);
        due("a wall: nothing to win", x.pact(3, 0), 1);
        due("a wall: 0", x.pact(3, -1), 0);
        due("farm 0's right has none", x.pact(0, -1), 350);
        x.set(0, 0);
        x.set(1, 99);
        // alone: 99000 - 3000 = 96000; both: the same, for its own feet are worth nothing: never
        due("never", x.pact(0, -1), -1);
        due("999", x.pact(0, 999), 0);
        x = two();
        due("of two: farm 1 with farm 0", x.pact(1, -1), 350);
        x.border(1, 0, 1);
        due("its right is border 1", x.pact(1, -1), 0);
        x.farm(1, 3, 1);
        // alone c 700: 7000 - 3000 - 3000 = 1000; both: 1000 - 20000
        due("a dog of the neighbour", x.pact(0, -1), 50);
        due("49", x.pact(0, 49), 0);
    }

    private static void duelsAsked() {
        FootANight x = two();
        due("k 0", x.two(0, 0, 0, 0), -1);
        due("k 41", x.two(41, 0, 0, 0), -1);
        due("p -1", x.two(1, -1, 0, 0), -1);
        due("p 1000", x.two(1, 1000, 0, 0), -1);
        due("w -1", x.two(1, 0, -1, 0), -1);
        due("w 21", x.two(1, 0, 21, 0), -1);
        due("what 2", x.two(1, 0, 0, 2), -1);
        due("what -1", x.two(1, 0, 0, -1), -1);
        due("move right", x.two(1, 0, 10, 1), 3);
        due("7 thousand", x.two(1, 0, 10, 0), 7000000L);
        due("nights of 7, by half", x.two(3, 500, 10, 0), 12250000L);
        due("the widths stay", x.of(0, 0), 10);
        due("the wall does not", x.stake(1, 0), 0);
        law(x, 1, "do 2;", 1);
        x.farm(1, 1, 1);
        // to watch: 100 of 20000 and 5000: -7000; to move: 10000 - 3000 - 20000; to sleep -20000
        due("watch", x.two(1, 0, 10, 1), 1);
        due("watch", x.two(1, 0, 10, 0), -7000000L);
        // and then: 100 of 1000 at 9, 900 at 10: at 9 sleep -20000, watch -7000, move 20000 - 23000 = -3000
        due("at 9 move", x.two(1, 0, 9, 1), 3);
        due("at 9 move", x.two(1, 0, 9, 0), -3000000L);
        // at 10: watch -7000 + .5 * (.1 * -3000 + .9 * -7000) = -10300
        due("two nights", x.two(2, 500, 10, 0), -10300000L);
        due("two nights: watch", x.two(2, 500, 10, 1), 1);
        x.border(0, 0, 1);
        due("a wall at border 0", x.two(2, 500, 10, 0), 0);
        due("sleep", x.two(2, 500, 10, 1), 0);
        x = two();
        law(x, 1, "do 1 when wide > 9 or rwall = 0;", 1);
        x.farm(1, 1, 1);
        due("with these widths: watched", x.two(1, 0, 10, 1), 0);
        due("with these widths: not watched, as if by a wall", x.two(1, 0, 11, 1), 3);
        x.ring(3);
        due("n 3", x.two(1, 0, 10, 0), -1);
        x.ring(2);
        x.farm(0, 0, 50);
        x.farm(1, 0, 10);
        due("60 together", x.two(1, 0, 60, 0), 0);
        x.farm(1, 0, 11);
        due("61 together", x.two(1, 0, 10, 0), -1);
    }

    private static void widthsTold() {
        FootANight x = two();
        no("was(-1, 0)", x.was(-1, 0));
        no("was(2, 0)", x.was(2, 0));
        no("was(0, -2)", x.was(0, -2));
        no("was(0, 61)", x.was(0, 61));
        yes("was(0, 60)", x.was(0, 60));
        yes("was(0, 0)", x.was(0, 0));
        yes("was(0, -1)", x.was(0, -1));
        x.was(0, 10);
        x.was(1, 10);
        due("judged", x.judged(), 0);
        no("was(1, 61)", x.was(1, 61));
        due("judged as before", x.judged(), 0);
        x.was(1, -1);
        due("not told any more", x.judged(), -1);
    }

    private static void morningsJudged() {
        FootANight x = new FootANight();
        due("nothing told", x.judged(), -1);
        int[] before = {9, 11, 10, 10};
        for (int f = 0; f < 4; f++) {
            x.was(f, before[f]);
        }
        due("one foot", x.judged(), 1);
        x.border(0, 0, 1);
        due("the other way round: three", x.judged(), 3);
        x.border(2, 0, 1);
        due("walls", x.judged(), -1);
        x.border(0, 0, 0);
        x.border(2, 0, 0);
        x.was(0, 8);
        x.was(1, 12);
        due("two feet, one each at two sides", x.judged(), 4);
        x.set(9, 2);
        due("two feet at one side", x.judged(), 2);
        x.was(1, 13);
        due("a foot is lost", x.judged(), -1);
        x.was(1, 12);
        x.set(9, 0);
        due("FEET 0", x.judged(), -1);
        for (int f = 0; f < 4; f++) {
            x.was(f, 10);
        }
        due("FEET 0, nothing moved", x.judged(), 0);
        x = two();
        x.was(0, 8);
        x.was(1, 12);
        due("two at two borders", x.judged(), 2);
        x.was(0, 7);
        x.was(1, 13);
        due("three by two borders of a foot", x.judged(), -1);
        x.set(9, 5);
        due("three", x.judged(), 3);
        x = two();
        x.farm(0, 0, 0);
        x.was(1, 11);
        due("farm 0 is not told: no width of -1", x.judged(), -1);
        x.was(0, 0);
        x.was(1, 10);
        due("both are told", x.judged(), 0);
        x.was(0, -1);
        x.was(1, 11);
        due("farm 0 is not told any more", x.judged(), -1);
    }

    private static void feetAsked() {
        FootANight x = creeping();
        due("feet(0)", x.feet(0), -1);
        due("feet(61)", x.feet(61), -1);
        due("feet(-1)", x.feet(-1), -1);
        // a foot taken is worth 10 and lost 20: the less the better
        due("none at all", x.feet(1), 0);
        x.farm(0, 0, 0);
        x.farm(1, 0, 40);
        law(x, 2, "do 2;", 1);
        x.farm(2, 1, 2);
        // farm 2 gains 10 a foot, farm 1 loses 5
        due("the most", x.feet(1), 5);
        due("in two nights", x.feet(2), 5);
        due("nothing stays", x.look(19), 1);
        due("nothing stays", x.of(2, 0), 10);
        x.set(0, 0);
        x.set(1, 0);
        x.set(2, 0);
        due("of several the least", x.feet(60), 0);
    }

    /** Farm 0 of 2340 feet moves right against 30 feet asleep; its PURSE is 2147254660, farm 1's is 0. */
    private static FootANight rich() {
        FootANight x = two();
        law(x, 0, "do 3;", 1);
        x.farm(1, 1, 1);
        for (int what = 0; what < 4; what++) {
            x.set(what, 0);
        }
        x.set(9, 5);
        x.farm(0, 0, 60);
        for (int i = 0; i < 38; i++) {
            x.farm(1, 0, 60);
            x.nights(12);
        }
        for (int what = 0; what < 3; what++) {
            x.set(what, 99);
        }
        // 2340 feet at 99: 231660 a night, 9268 nights; then 2310 a night 99 times, then 10 a night 109 times
        for (int i = 0; i < 93; i++) {
            x.nights(99);
        }
        x.nights(61);
        x.set(0, 0);
        x.set(1, 0);
        x.set(2, 1);
        x.nights(99);
        x.set(0, 1);
        x.set(2, 0);
        x.nights(99);
        x.nights(10);
        x.set(0, 0);
        x.set(2, 99);
        x.farm(1, 0, 30);
        return x;
    }

    private static void feetAboveAnInt() {
        FootANight x = rich();
        due("WIDTH", x.of(0, 0), 2340);
        due("PURSE", x.of(0, 4), 2147254660);
        // FEET 4: 2147254660 + 99 * 2314 = 2147483746, no int either; 5: 99 more
        due("the most is above an int", x.feet(1), 5);
        due("all are above it", x.feet(2), 5);
        due("what comes to PURSES", x.thought(1, 0), 99 * 2315);
        due("what comes to PURSES", x.thought(2, 0), 99 * (2315 + 2320));
        due("nothing stays", x.of(0, 4), 2147254660);
        x.image(true);
        x.nights(1);
        due("told as an int, which wraps", x.of(0, 4), 2147254660 + 99 * 2315);
        law(x, 1, "do 2 when purse < 0;", 1);
        x.farm(0, 1, 1);
        due("seen by a text as an int, which wraps", x.of(0, 8), 2);
        x.farm(0, 1, 0);
        due("all are above it", x.feet(1), 5);
        x.image(false);
        due("gone back", x.of(0, 4), 2147254660);
        due("gone back", x.feet(1), 5);
        x.nights(60);
        x.image(false);
        x.ring(2);
        due("a new ring's purses", x.thought(1, 0), 0);
        due("a new ring's purse", x.of(0, 4), 0);
    }

    private static void thoughtsAsked() {
        FootANight x = creeping();
        due("thought(0, 0)", x.thought(0, 0), NO_NUMBER);
        due("thought(61, 0)", x.thought(61, 0), NO_NUMBER);
        due("thought(1, 4)", x.thought(1, 4), NO_NUMBER);
        due("thought(1, -1)", x.thought(1, -1), NO_NUMBER);
        due("PURSES", x.thought(1, 0), 210 + 180 + 200 + 200 - 3);
        due("MOVED", x.thought(4, 1), 4);
        due("CAUGHT", x.thought(4, 2), 0);
        due("EATEN", x.thought(9, 3), 0);
        due("EATEN", x.thought(10, 3), 1);
        due("MOVED", x.thought(60, 1), 10);
        due("nothing stays", x.look(1), 0);
        due("nothing stays", x.look(2), 0);
        due("nothing stays", x.of(0, 4), 0);
        x.nights(3);
        due("what comes to PURSES", x.thought(1, 0), 240 + 120 + 400 - 3);
        due("what comes to MOVED", x.thought(9, 1), 7);
        x.farm(1, 3, 1);
        x.set(8, 1000);
        due("CAUGHT", x.thought(5, 2), 5);
        due("STATE stays", x.state(0), 0);
        x.nights(2);
        due("what comes to CAUGHT", x.thought(5, 2), 5);
        x.farm(2, 0, 0);
        x.nights(1);
        due("EATEN then, those before too", x.thought(1, 3), 1);
    }

    private static void imagesTaken() {
        FootANight x = creeping();
        no("none", x.image(false));
        due("as it was", x.of(0, 8), 3);
        x.was(0, 9);
        x.was(1, 11);
        x.was(2, 10);
        x.was(3, 10);
        x.border(2, 1, 2);
        x.set(5, 44);
        x.nights(1);
        x.state(5);
        yes("taken", x.image(true));
        for (int i = 0; i < 2; i++) {
            law(x, 1, "do 1;", 1);
            x.set(5, 2);
            x.state(9);
            x.nights(7);
            x.ring(2);
            put(x, "do 4;");
            x.text(0);
            put(x, "do 2;");
            yes("gone back", x.image(false));
            due("n", x.look(0), 4);
            due("NIGHT", x.look(1), 1);
            due("MOVED", x.look(2), 1);
            due("DOGS", x.look(15), 44);
            due("WIDTH", x.of(0, 0), 11);
            due("PURSE", x.of(0, 4), 207);
            due("the TEXT", x.of(0, 8), 3);
            due("HEAVY", x.stake(2, 1), 2);
            due("who", x.stake(0, 3), 0);
            due("judged: as told", x.judged(), 4);
            due("STATE", x.state(1), 5);
            due("fault() is not of it", x.fault(0), 2);
            due("nor is the place", x.fault(1), 3);
            yes("nor is the TAPE", x.end(5));
            due("text", x.text(2), 1);
        }
        yes("taken again", x.image(true));
        x.nights(1);
        x.image(false);
        due("STATE", x.state(0), 1);
    }

    private static void looked() {
        FootANight x = creeping();
        due("look(-1)", x.look(-1), -1);
        due("look(5)", x.look(5), -1);
        due("look(9)", x.look(9), -1);
        due("look(20)", x.look(20), -1);
        due("look(MIN)", x.look(Integer.MIN_VALUE), -1);
        due("look(MAX)", x.look(Integer.MAX_VALUE), -1);
        x.farm(2, 0, 50);
        due("widths", x.look(3), 80);
        x.farm(3, 0, 0);
        due("EATEN by a night alone", x.look(4), 0);
        x.nights(10);
        due("n", x.look(0), 4);
        due("NIGHT", x.look(1), 10);
        due("MOVED", x.look(2), 10);
        due("widths", x.look(3), 70);
        due("EATEN", x.look(4), 2);
    }

    public static void main(String[] args) {
        Runnable[] promises = {PromiseTests::newObject, PromiseTests::stateTold, PromiseTests::ringTold,
            PromiseTests::farmTold, PromiseTests::borderTold, PromiseTests::settingTold, PromiseTests::worthAsked,
            PromiseTests::tapeFed, PromiseTests::tapeEnded, PromiseTests::textRead, PromiseTests::faultsTold,
            PromiseTests::farmAsked, PromiseTests::stakeAsked, PromiseTests::nightsPassed, PromiseTests::valuesAsked,
            PromiseTests::repliesAsked, PromiseTests::restsAsked, PromiseTests::stillAsked, PromiseTests::wallsAsked,
            PromiseTests::pactsAsked, PromiseTests::duelsAsked, PromiseTests::widthsTold, PromiseTests::morningsJudged,
            PromiseTests::feetAsked, PromiseTests::thoughtsAsked, PromiseTests::imagesTaken, PromiseTests::looked};
        for (int i = 0; i < promises.length; i++) {
            promise = "promise " + (i + 1);
            promises[i].run();
        }
        promise = "promise 12, towards 0";
        towardsZero();
        promise = "promise 24, purses above an int";
        feetAboveAnInt();
        System.out.println(asked + " answers, " + wrong + " of them not as due");
        if (wrong != 0) {
            System.exit(1);
        }
    }
}
