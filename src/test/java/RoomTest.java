import java.lang.management.ManagementFactory;
import java.util.Random;

/**
 * No call makes anything that stays in the room, none throws for any arguments, and the dearest calls come to an end
 * soon: what one object and 512 calls take is far below the room that all calls share.
 */
public final class RoomTest {
    private static final Checks CHECKS = new Checks();
    private static final int[] EDGES = {Integer.MIN_VALUE, -100000, -2, -1, 0, 1, 2, 3, 5, 6, 9, 10, 11, 15, 16, 31, 32,
        63, 64, 20000, Integer.MAX_VALUE};

    public static void main(String[] args) {
        dearestCalls();
        room();
        for (int seed = 0; seed < 3000; seed++) {
            anyArguments(new Random(seed));
        }
        CHECKS.due("no call threw", 0, 0);
        CHECKS.end();
    }

    private static void dearestCalls() {
        long before = System.nanoTime();
        HandleFaces x = Checks.drawn("post a;post b;" + "line a b;".repeat(6));
        HandleFaces y = Checks.drawn("post a;post b;post c;post d;post e;post f;line a d;line a e;line a f;line b d;"
            + "line b e;line b f;line c d;line c e;line c f;");
        for (int k = 0; k < 128; k++) {
            x.all(1);
            x.goes(0);
            x.all(1);
            x.lay(k & 1, 0, 1 - (k & 1), 0, false);
            y.lay(k % 3, 0, (k + 1) % 3, 0, false);
            y.capped();
            y.needing(1);
            y.goes(9);
        }
        long seconds = (System.nanoTime() - before) / 1_000_000_000;
        CHECKS.due("the dearest calls took " + seconds + " seconds", seconds < 60, true);
    }

    private static void room() {
        com.sun.management.ThreadMXBean threads = (com.sun.management.ThreadMXBean) ManagementFactory.getThreadMXBean();
        long thread = Thread.currentThread().getId();
        threads.getThreadAllocatedBytes(thread);
        long before = threads.getThreadAllocatedBytes(thread);
        HandleFaces x = new HandleFaces();
        long made = threads.getThreadAllocatedBytes(thread) - before;
        CHECKS.due("a new object takes " + made + " bytes", made < 64 * 1024, true);
        Random random = new Random(1);
        Checks.type(x, "post a;post b;post c;post d;line a b;line a c;line a d;line b c;line b d;line c d;");
        x.read();
        before = threads.getThreadAllocatedBytes(thread);
        for (int k = 0; k < 480; k++) {
            call(x, k % 30, random);
        }
        long more = threads.getThreadAllocatedBytes(thread) - before;
        CHECKS.due("calls take " + more + " bytes", more < 16 * 1024, true);
    }

    private static void anyArguments(Random random) {
        HandleFaces x = new HandleFaces();
        if (random.nextInt(4) != 0) {
            Checks.read(x, "post a;post b;post c;post d;line a b;line a c;line a d;line b c;line b d;");
        }
        for (int k = 0; k < 200; k++) {
            call(x, random.nextInt(30), random);
        }
    }

    private static int any(Random random) {
        return random.nextInt(3) == 0 ? EDGES[random.nextInt(EDGES.length)] : random.nextInt(5);
    }

    private static void call(HandleFaces x, int which, Random random) {
        int a = any(random);
        int b = any(random);
        int c = any(random);
        switch (which) {
            case 0: x.feed(random.nextInt(), a, 0x3B3B2061, b, random.nextInt()); break;
            case 1: x.back(a); break;
            case 2: if (random.nextInt(8) == 0) { x.read(); } break;
            case 3: x.place(); break;
            case 4: x.lay(a, b, c, any(random), random.nextBoolean()); break;
            case 5: x.goes(a); break;
            case 6: x.twist(a); break;
            case 7: x.flip(a); break;
            case 8: x.exchange(a, b); break;
            case 9: x.lessen(); break;
            case 10: x.dual(); break;
            case 11: if (random.nextInt(3) == 0) { x.shrink(a); } break;
            case 12: x.undo(); break;
            case 13: x.line(a, b); break;
            case 14: x.round(a, b); break;
            case 15: x.face(a, b); break;
            case 16: x.surface(a); break;
            case 17: x.all(a); break;
            case 18: x.needing(a); break;
            case 19: x.ordered(a, b, c); break;
            case 20: x.capped(); break;
            case 21: x.bound(a); break;
            case 22: x.without(a, b); break;
            case 23: x.beside(a); break;
            case 24: x.colours(); break;
            case 25: x.like(a); break;
            case 26: x.hold(a); break;
            case 27: x.restore(a); break;
            case 28: x.lay(random.nextInt(4), 0, random.nextInt(4), 0, random.nextBoolean()); break;
            default: x.count(a); break;
        }
    }
}
