import java.lang.management.ManagementFactory;
import java.util.Random;

/** Any arguments in any state: no call throws, and none makes an object (all calls of a run share one small room). */
public final class WildCalls {
    private static final int OBJECTS = 1500;
    private static final int CALLS = 512;
    private static final int[] EDGES = {Integer.MIN_VALUE, Integer.MIN_VALUE + 1, -100000, -1000, -4, -3, -2, -1, 0, 1,
        2, 3, 4, 5, 6, 7, 8, 9, 10, 11, 12, 16, 19, 20, 21, 40, 41, 59, 60, 61, 98, 99, 100, 255, 256, 399, 400, 401,
        599, 600, 601, 999, 1000, 1001, 4095, 4096, 9999, 10000, 1 << 20, (1 << 20) - 1, Integer.MAX_VALUE - 1,
        Integer.MAX_VALUE};
    private static final String SIGNS = "do when or and not wide hit night purse gain loss ;;;()+-*/<=> 0123456789 \n";

    private static long sum = 0;

    private static int some(Random random) {
        int way = random.nextInt(8);
        if (way == 0) {
            return random.nextInt();
        }
        if (way < 3) {
            return EDGES[random.nextInt(EDGES.length)];
        }
        return random.nextInt(way < 6 ? 5 : 70);
    }

    private static int fourSigns(Random random) {
        int four = 0;
        for (int i = 0; i < 4; i++) {
            four = four << 8 | SIGNS.charAt(random.nextInt(SIGNS.length()));
        }
        return random.nextInt(9) == 0 ? random.nextInt() : four;
    }

    private static void putLine(FootANight x, Random random) {
        x.end(0);
        // "do 2 when gain > loss + 3 ;" or one near to it
        int doing = '0' + random.nextInt(5);
        x.feed(0x646F2000 | doing, 0x20776865, 0x6E206761, 0x696E203E, 0x206C6F73);
        x.feed(0x73202B20, 0x33203B20, 0x20202020, 0x20202020, 0x646F2033);
        x.end(random.nextInt(12) == 0 ? random.nextInt(41) : 28);
        sum += x.text(random.nextInt(4));
    }

    private static void call(FootANight x, Random random) {
        int a = some(random);
        int b = some(random);
        int c = some(random);
        switch (random.nextInt(30)) {
            case 0: sum += x.state(a); break;
            case 1: sum += x.ring(random.nextInt(4) == 0 ? a : 2 + random.nextInt(9)) ? 1 : 0; break;
            case 2: sum += x.farm(a, b, c) ? 1 : 0; break;
            case 3: sum += x.farm(random.nextInt(4), random.nextInt(4), c) ? 1 : 0; break;
            case 4: sum += x.border(a, b, c) ? 1 : 0; break;
            case 5: sum += x.set(a, b) ? 1 : 0; break;
            case 6: sum += x.worth(a); break;
            case 7: sum += x.feed(fourSigns(random), fourSigns(random), fourSigns(random), fourSigns(random), a); break;
            case 8: sum += x.end(a) ? 1 : 0; break;
            case 9: sum += x.text(a); break;
            case 10: sum += x.fault(a); break;
            case 11: sum += x.of(a, b); break;
            case 12: sum += x.stake(a, b); break;
            case 13: sum += x.nights(a); break;
            case 14: sum += x.value(a, b); break;
            case 15: sum += x.reply(a, b); break;
            case 16: sum += x.rests(random.nextInt(3) == 0 ? a : 7); break;
            case 17: sum += x.still(); break;
            case 18: sum += x.walls(random.nextInt(3) == 0 ? a : 3, b); break;
            case 19: sum += x.pact(a, b); break;
            case 20: sum += x.two(a, b, c, some(random)); break;
            case 21: sum += x.two(1 + random.nextInt(40), random.nextInt(1000), random.nextInt(20), 0); break;
            case 22: sum += x.was(a, b) ? 1 : 0; break;
            case 23: sum += x.judged(); break;
            case 24: sum += x.feet(random.nextInt(3) == 0 ? a : 61); break;
            case 25: sum += x.thought(random.nextInt(3) == 0 ? a : 2, b); break;
            case 26: sum += x.image(random.nextBoolean()) ? 1 : 0; break;
            case 27: sum += x.look(a); break;
            default: putLine(x, random); break;
        }
    }

    private static long bytesMade() {
        return ((com.sun.management.ThreadMXBean) ManagementFactory.getThreadMXBean()).getCurrentThreadAllocatedBytes();
    }

    public static void main(String[] args) {
        long calls = 0;
        long most = 0;
        for (int i = 0; i < OBJECTS; i++) {
            Random random = new Random(i);
            FootANight x = new FootANight();
            long before = bytesMade();
            for (int k = 0; k < CALLS; k++) {
                call(x, random);
                calls++;
            }
            // the first objects' calls load classes
            if (i > 100) {
                most = Math.max(most, bytesMade() - before);
            }
        }
        System.out.println(calls + " calls, none threw; 512 of them made " + most + " bytes at most (" + sum + ")");
        if (most > 4096) {
            System.out.println("calls make objects");
            System.exit(1);
        }
    }
}
