import java.util.Random;

/** Random runs on small plans, each answer against that of the slow desk that lists every number. */
public final class ModelTest {
    private static final int RUNS = 210;
    private static final int RELIEF_RUNS = 150;
    private static final int CALLS = 512;
    private static final Due DUE = new Due("ModelTest");

    private final Random random;
    private final int seed;
    private final DialDesk x = new DialDesk();
    private final NaiveDesk y = new NaiveDesk(true);
    /** Out of 100 calls: those that change the plan, lines, dial, change the supply; the rest asks. */
    private final int[] shares;
    private final int mostEntries;
    private final boolean wide;

    private ModelTest(int seed) {
        this.seed = seed;
        this.random = new Random(seed);
        int[][] all = {{25, 15, 25, 10}, {12, 40, 25, 3}, {4, 6, 2, 40}};
        this.shares = all[seed % 3];
        this.mostEntries = seed % 3 == 2 ? 6 : 30;
        this.wide = seed % 3 == 2;
    }

    public static void main(String[] args) {
        int from = args.length > 0 ? Integer.parseInt(args[0]) : 0;
        for (int seed = from; seed < from + RUNS && DUE.wrong() == 0; seed++) {
            new ModelTest(seed).run();
        }
        for (int seed = from; seed < from + RELIEF_RUNS && DUE.wrong() == 0; seed++) {
            new ModelTest(3 * seed + 2).runReliefs();
        }
        DUE.end();
    }

    private void run() {
        for (int call = 0; call < CALLS && DUE.wrong() == 0; call++) {
            int left = random.nextInt(100);
            int kind = 0;
            while (kind < shares.length && left >= shares[kind]) {
                left -= shares[kind];
                kind++;
            }
            if (kind == 0 && y.rows.size() < mostEntries) {
                changeThePlan();
            } else if (kind == 1) {
                changeLines();
            } else if (kind == 2) {
                dial();
            } else if (kind == 3) {
                changeSupply();
            } else {
                ask();
            }
        }
    }

    /** A few blocks, demand a little above them, and options that seldom make pairs. */
    private void runReliefs() {
        int start = pick(30);
        due("now", x.now(start), y.now(start));
        for (int i = pick(4); i > 0; i--) {
            int p = told(3);
            int d = start + (pick(2) == 0 ? 0 : pick(60));
            due("block", x.block(0, p, 1, 5, d), y.block(0, p, 1, 5, d));
            if (pick(3) == 0) {
                due("finish", x.finish(i, d + 30), y.finish(i, d + 30));
            }
        }
        int f = (int) y.room(0, start) + pick(150);
        int m = pick(12);
        due("demand", x.demand(0, f, m), y.demand(0, f, m));
        for (int o = 0; o < 8; o++) {
            int a = pick(9) == 0 ? 1 : 0;
            int p = told(3);
            int s = 1 << pick(10) | 1 << pick(10);
            int n = Integer.toString(p).length() + 1 + pick(2);
            int d = start + (pick(2) == 0 ? 0 : pick(70));
            int c = 1 + pick(20);
            due("mightCome", x.mightCome(a, p, s, n, d, c), y.mightCome(a, p, s, n, d, c));
        }
        int later = start + (pick(2) == 0 ? 0 : pick(10));
        due("now", x.now(later), y.now(later));
        for (int w = 1; w <= 2000; w = w * 3 / 2 + 1) {
            due("relief " + w, x.relief(0, w), y.relief(0, w));
        }
    }

    private void due(String call, long got, long due) {
        DUE.is("seed " + seed + " " + call, got, due);
    }

    private int pick(int below) {
        return random.nextInt(below);
    }

    /** Mostly a day that can be, near the clock. */
    private int day() {
        return pick(12) == 0 ? pick(150) - 2 : y.clock + pick(25);
    }

    private int told(int most) {
        int places = 1 + pick(most);
        int told = 1;
        for (int i = 0; i < places; i++) {
            told = told * 10 + (wide || pick(8) == 0 ? pick(10) : pick(3));
        }
        return told;
    }

    private int set() {
        int kind = pick(4);
        return kind == 0 ? 1023 : kind == 1 ? 1 << pick(3) : kind == 2 ? pick(8) : pick(1024);
    }

    private int entry() {
        return pick(y.rows.size() + 1) - (pick(20) == 0 ? 1 : 0);
    }

    /** Mostly a block that is in force, if some are. */
    private int block() {
        for (int i = 0; i < 20 && pick(10) > 0; i++) {
            int e = entry();
            if (y.entry(e, 0) == 0 && y.rows.get(e).inForce(y.clock)) {
                return e;
            }
        }
        return entry();
    }

    private int placesBehind(int e) {
        return y.entry(e, 0) == 0 ? y.entry(e, 4) - Integer.toString(y.entry(e, 2)).length() + 1 : 0;
    }

    private int figuresBehind(int e) {
        int figures = 1;
        for (int i = 0; i < placesBehind(e); i++) {
            figures = figures * 10 + pick(3);
        }
        return figures;
    }

    private void changeThePlan() {
        int a = pick(3);
        int p = told(2);
        int s = set();
        int d = day();
        int e = entry();
        switch (pick(8)) {
            case 0:
            case 1: {
                int n = 2 + pick(3);
                due("block " + p + " " + s + " " + n, x.block(a, p, s, n, d), y.block(a, p, s, n, d));
                break;
            }
            case 2: {
                int n = told(4);
                due("service " + n, x.service(n, a, d), y.service(n, a, d));
                break;
            }
            case 3: {
                int n = 2 + pick(3);
                int m = n + pick(3);
                if (m <= 5) {
                    due("foreign " + p, x.foreign(p, n, m, d), y.foreign(p, n, m, d));
                }
                break;
            }
            case 4:
                if (pick(2) == 0) {
                    due("finish " + e, x.finish(e, d), y.finish(e, d));
                }
                break;
            case 5:
            case 6:
                split(block(), s, p, a, d);
                break;
            default: {
                int b = block();
                if (y.entry(b, 4) < 5) {
                    int f = pick(4);
                    int days = pick(40);
                    due("lengthen " + b, x.lengthen(b, f, d, days), y.lengthen(b, f, d, days));
                }
            }
        }
    }

    private void split(int e, int s, int p, int a, int d) {
        int own = y.entry(e, 3);
        int part = own > 0 && pick(4) > 0 ? own & s : s;
        if (placesBehind(e) + Integer.toString(p).length() - 1 <= 5) {
            int days = pick(4) == 0 ? 0 : pick(60);
            due("split " + e + " " + part, x.split(e, part, p, a, d, days), y.split(e, part, p, a, d, days));
        }
    }

    private void changeLines() {
        int l = pick(y.wires.size() + 1) - (pick(20) == 0 ? 1 : 0);
        switch (pick(8)) {
            case 0:
                due("drop " + l, x.drop(l), y.drop(l));
                break;
            case 1:
                due("port " + l, x.port(l, l * 7 % 101), y.port(l, l * 7 % 101));
                break;
            case 2: {
                int d = y.clock + pick(5) - 1;
                due("now " + d, x.now(d), y.now(d));
                break;
            }
            default: {
                int e = block();
                int f = pick(10) == 0 ? told(3) : figuresBehind(e);
                due("line " + e + " " + f, x.line(e, f), y.line(e, f));
            }
        }
    }

    private void dial() {
        int k = pick(4);
        int kind = y.told(k, 2) != 0 && pick(3) > 0 ? 0 : pick(10);
        if (kind == 0) {
            due("call", x.call(k), y.call(k));
            dialALine(k);
        } else if (kind == 1) {
            due("waits " + k, x.waits(k), y.waits(k));
        } else {
            int f = pick(8) == 0 ? pick(10) : pick(3);
            due("figure " + k + " " + f, x.figure(k, f), y.figure(k, f));
        }
        for (int what = 0; what <= 10; what++) {
            due("told " + k + " " + what, x.told(k, what), y.told(k, what));
        }
    }

    /** Some of the figures of a line's number, of some day. */
    private void dialALine(int k) {
        long number = y.numberOf(pick(y.wires.size() + 1), day());
        String figures = number < 10 || pick(4) == 0 ? "" : Long.toString(number).substring(1);
        int most = pick(3) == 0 ? pick(figures.length() + 1) : figures.length();
        for (int i = 0; i < most; i++) {
            int f = figures.charAt(i) - '0';
            due("figure " + k + " " + f, x.figure(k, f), y.figure(k, f));
        }
    }

    private void changeSupply() {
        int a = wide ? pick(2) : pick(3);
        switch (pick(4)) {
            case 0: {
                int f = pick(2) == 0 ? pick(50) : pick(2) == 0 ? pick(3000) : (int) y.room(a, y.clock) + pick(100);
                int m = pick(3) == 0 ? 0 : pick(60);
                due("demand", x.demand(a, f, m), y.demand(a, f, m));
                break;
            }
            case 1:
            case 2: {
                int p = told(3);
                int s = set();
                int n = wide ? 4 + pick(2) : 2 + pick(4);
                int d = wide ? y.clock + pick(8) : day();
                int c = pick(6);
                due("mightCome", x.mightCome(a, p, s, n, d, c), y.mightCome(a, p, s, n, d, c));
                break;
            }
            default: {
                int o = pick(9);
                if (pick(3) == 0 && y.rows.size() < 30) {
                    due("take " + o, x.take(o), y.take(o));
                }
            }
        }
    }

    private void ask() {
        int d = day();
        switch (pick(8)) {
            case 0:
                askPairs(d);
                break;
            case 1:
                for (int l = -1; l <= y.wires.size(); l++) {
                    due("numberOf " + l + " " + d, x.numberOf(l, d), y.numberOf(l, d));
                }
                break;
            case 2:
                for (int l = 0; l < y.wires.size(); l++) {
                    for (int what = -1; what <= 3; what++) {
                        due("lineAt " + l + " " + d, x.lineAt(l, d, what), y.lineAt(l, d, what));
                    }
                    long number = y.numberOf(l, pick(60));
                    due("leads " + number + " " + d, x.leads(number, d), y.leads(number, d));
                }
                break;
            case 3:
                for (int n = 0; n < 20; n++) {
                    int number = told(5);
                    due("leads " + number + " " + d, x.leads(number, d), y.leads(number, d));
                }
                break;
            case 4:
                for (int what = -1; what <= 6; what++) {
                    due("count " + what, x.count(what), y.count(what));
                }
                break;
            case 5:
                for (int e = 0; e <= y.rows.size(); e++) {
                    for (int what = -1; what <= 9; what++) {
                        due("entry " + e + " " + what, x.entry(e, what), y.entry(e, what));
                    }
                }
                break;
            default:
                askSupply(d);
        }
    }

    private void askPairs(int d) {
        int all = y.pairs(d);
        due("pairs " + d, x.pairs(d), all);
        for (int i = -1; i <= Math.min(all, 40); i++) {
            due("pair " + d + " " + i, x.pair(d, i, 0), y.pair(d, i, 0));
            due("pair other " + d + " " + i, x.pair(d, i, 1), y.pair(d, i, 1));
        }
    }

    private void askSupply(int d) {
        int a = wide ? pick(2) : pick(3);
        due("room " + a + " " + d, x.room(a, d), y.room(a, d));
        due("shortage " + a, x.shortage(a), y.shortage(a));
        int w = pick(4) == 0 ? 1 + pick(2000) : 1 + pick(20);
        due("relief " + a + " " + w, x.relief(a, w), y.relief(a, w));
    }
}
