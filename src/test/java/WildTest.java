import java.util.Random;

/** Calls with any arguments in any state: none throws, and each answers within its own answers. */
public final class WildTest {
    private static final Due DUE = new Due("WildTest");
    private static final int[] EDGES = {
        Integer.MIN_VALUE, -1999999999, -3, -2, -1, 0, 1, 2, 3, 9, 10, 12, 15, 16, 99, 100, 119, 120, 300, 1000,
        1023, 2000, 2001, 14006, 20000, 20001, 19999999, 1000000000, 1999999999, Integer.MAX_VALUE
    };

    private final Random random;
    private final DialDesk x = new DialDesk();

    private WildTest(int seed) {
        random = new Random(seed);
    }

    public static void main(String[] args) {
        for (int seed = 0; seed < 2000; seed++) {
            WildTest test = new WildTest(seed);
            for (int call = 0; call < 512; call++) {
                test.one(seed);
            }
        }
        aHeavyRun();
        DUE.end();
    }

    private int any() {
        int kind = random.nextInt(8);
        if (kind == 0) {
            return random.nextInt();
        }
        return kind < 3 ? EDGES[random.nextInt(EDGES.length)] : random.nextInt(kind < 6 ? 12 : 1200);
    }

    private void one(int seed) {
        try {
            long answer = callAny();
            DUE.is("seed " + seed + " answer below FULL", Math.min(answer, DialDesk.FULL), DialDesk.FULL);
        } catch (RuntimeException thrown) {
            DUE.is("seed " + seed + " throws " + thrown, 1, 0);
        }
    }

    private long callAny() {
        int a = any();
        int b = any();
        int c = any();
        int d = any();
        switch (random.nextInt(34)) {
            case 0: return random.nextInt(4) == 0 ? x.now(a) : x.now(x.count(3) + 1);
            case 1: return x.block(a, b, c, d, any());
            case 2: return x.block(random.nextInt(3), 10 + random.nextInt(10), 1023, 2 + random.nextInt(11), x.count(3));
            case 3: return x.service(a, b, c);
            case 4: return x.foreign(a, b, c, d);
            case 5: return x.foreign(10 + random.nextInt(10), 2 + random.nextInt(5), 7 + random.nextInt(9), x.count(3));
            case 6: return x.finish(a, b);
            case 7: return x.split(a, b, c, d, any(), any());
            case 8: return x.split(a, 1 << random.nextInt(10), b, c, x.count(3) + 1, d);
            case 9: return x.lengthen(a, b, c, d);
            case 10: return x.lengthen(a, b, x.count(3) + 1, d);
            case 11: return x.entry(a, b);
            case 12: return x.pairs(a);
            case 13: return x.pair(a, b, c);
            case 14: return x.pair(x.count(3), b, c & 1);
            case 15: return x.line(a, b);
            case 16: return x.line(a, 1000000000 + random.nextInt(1000000000));
            case 17: return x.drop(a);
            case 18: return x.port(a, b);
            case 19: return x.numberOf(a, b);
            case 20: return x.lineAt(a, b, c);
            case 21: return x.call(a);
            case 22: return x.figure(a, b);
            case 23: return x.figure(a & 3, random.nextInt(10));
            case 24: return x.waits(a);
            case 25: return x.told(a, b);
            case 26: return x.told(a & 3, random.nextInt(12));
            case 27: return x.leads(random.nextInt(3) == 0 ? random.nextLong() : (long) a * b, c);
            case 28: return x.demand(a, b, c);
            case 29: return x.room(a, b);
            case 30: return x.shortage(a);
            case 31: return x.mightCome(a, b, c, d, any(), any());
            case 32: return x.relief(a, b);
            default: return random.nextInt(2) == 0 ? x.take(a) : x.count(b);
        }
    }

    /** As many entries, turns and options as there can be, and the dearest calls on them. */
    private static void aHeavyRun() {
        DialDesk x = new DialDesk();
        for (int e = 0; e < 112; e++) {
            x.block(0, 1000 + e, 1, 4 + e % 3, e * 14);
            x.finish(e, e * 14 + 10000);
        }
        for (int o = 0; o < 8; o++) {
            x.mightCome(0, 1900 + o, 1, 4, 7 * o + 3, o + 1);
        }
        x.demand(0, 0, 1);
        DUE.is("entries", x.count(0), 112);
        int shortage = 0;
        while (shortage <= heavyRoom(shortage)) {
            shortage++;
        }
        for (int call = 0; call < 100; call++) {
            int lack = 0;
            for (int week = shortage; week <= shortage + call; week++) {
                lack = Math.max(lack, week - heavyRoom(week));
            }
            DUE.is("shortage", x.shortage(0), shortage);
            DUE.is("relief " + call, x.relief(0, call + 1), lack > 8 ? DialDesk.NONE : (1 << lack) - 1);
        }
    }

    private static int heavyRoom(int week) {
        int room = 0;
        for (int e = 0; e < 112; e++) {
            if (7 * week >= e * 14 && 7 * week < e * 14 + 10000) {
                room += e % 3 == 0 ? 1 : e % 3 == 1 ? 10 : 100;
            }
        }
        return room;
    }
}
