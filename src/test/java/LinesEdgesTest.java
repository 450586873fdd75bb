/** The boundary cases of promises 12 to 16: what is taken last, what is refused first, and that it leaves no trace. */
public final class LinesEdgesTest {
    private static final Due DUE = new Due("LinesEdgesTest");
    private static final int NONE = DialDesk.NONE;
    private static final int RANGE = DialDesk.RANGE;
    private static final int FULL = DialDesk.FULL;
    private static final int MIN = Integer.MIN_VALUE;
    private static final int MAX = Integer.MAX_VALUE;

    public static void main(String[] args) {
        lineNoSuchBlock();
        lineInForce();
        lineFigures();
        lineOneFigureBehind();
        lineNineAndTenFiguresBehind();
        lineThereIsOne();
        lineFull();
        dropNoSuchLine();
        dropDroppedAlready();
        dropFromTheClocksDay();
        portNoSuchLine();
        portDropped();
        portCarrier();
        portAnswersNone();
        portFull();
        numberOfNoSuchLine();
        numberOfNoSuchDay();
        numberOfNotYet();
        numberOfNotAnyMore();
        numberOfEndedBlock();
        numberThroughAsManyChangesAsThereCanBe();
        lineAtNoSuch();
        lineAtDays();
        lineAtCarrier();
        lineAtCarrierAheadOfAllPortings();
        DUE.end();
    }

    private static void due(String call, long got, long due) {
        DUE.is(call, got, due);
    }

    private static Edge busy(String promise) {
        return new Edge(DUE, promise, States.BUSY_CALLS, States::busy);
    }

    /** A block 2xxxx with so many lines from 20000 on. */
    private static DialDesk lines(int count) {
        DialDesk x = new DialDesk();
        x.block(4, 12, 1023, 5, 0);
        for (int l = 0; l < count; l++) {
            x.line(0, 10000 + l);
        }
        return x;
    }

    // ---- promise 12

    private static void lineNoSuchBlock() {
        Edge edge = busy("12: line's block");
        edge.taken("0", x -> x.line(0, 1000), 3);
        edge.taken("8", x -> x.line(8, 1100), 3);
        edge.refused("-1", x -> x.line(-1, 1000), RANGE);
        edge.refused("10", x -> x.line(10, 1000), RANGE);
        edge.refused("MIN", x -> x.line(MIN, 1000), RANGE);
        edge.refused("MAX", x -> x.line(MAX, 1000), RANGE);
        edge.refused("short", x -> x.line(2, 112), RANGE);
        edge.refused("short, behind nothing", x -> x.line(2, 1), RANGE);
        edge.refused("foreign", x -> x.line(3, 1000), RANGE);
        edge.refused("parked in force", x -> x.line(9, 1100), RANGE);
        edge.refused("parked to come", x -> x.line(7, 1345), RANGE);
    }

    private static DialDesk aBlockFrom5To8(int clock) {
        DialDesk x = new DialDesk();
        x.block(2, 12, 3, 4, 5);
        x.finish(0, 8);
        x.now(clock);
        return x;
    }

    private static void lineInForce() {
        new Edge(DUE, "12: line ahead of its block", 3, () -> aBlockFrom5To8(4))
            .refused("4", x -> x.line(0, 1000), RANGE);
        new Edge(DUE, "12: line on its block's first day", 3, () -> aBlockFrom5To8(5))
            .taken("5", x -> x.line(0, 1000), 0);
        new Edge(DUE, "12: line on its block's last day", 3, () -> aBlockFrom5To8(7))
            .taken("7", x -> x.line(0, 1000), 0);
        new Edge(DUE, "12: line on its block's end", 3, () -> aBlockFrom5To8(8))
            .refused("8", x -> x.line(0, 1000), RANGE);
        Edge edge = busy("12: line on changed blocks");
        edge.taken("split to come", x -> x.line(0, 1346), 3);
        edge.refused("rest to come", x -> x.line(5, 1000), RANGE);
        edge.refused("moved to come", x -> x.line(6, 1346), RANGE);
        edge.refused("lengthened already", x -> x.line(4, 1100), RANGE);
    }

    private static void lineFigures() {
        Edge edge = busy("12: line's figures");
        due("12: the least", edge.taken("1000", x -> x.line(0, 1000), 3).numberOf(3, 10), 12000);
        due("12: the most", edge.taken("1999", x -> x.line(0, 1999), 3).numberOf(3, 10), 12999);
        int[] refused = {MIN, -1000, -1, 0, 1, 9, 10, 99, 100, 199, 999, 2000, 9999, 10000, 19999, 1999999999, MAX};
        for (int figures : refused) {
            edge.refused("refused " + figures, x -> x.line(0, figures), RANGE);
        }
        edge.taken("the set's least", x -> x.line(8, 1100), 3);
        edge.taken("the set's most", x -> x.line(8, 1399), 3);
        edge.refused("below the set", x -> x.line(8, 1099), RANGE);
        edge.refused("above the set", x -> x.line(8, 1400), RANGE);
    }

    private static DialDesk aBlockOf(int prefix, int length) {
        DialDesk x = new DialDesk();
        x.block(2, prefix, 1023, length, 0);
        return x;
    }

    private static void lineOneFigureBehind() {
        Edge edge = new Edge(DUE, "12: one figure behind", 1, () -> aBlockOf(18, 2));
        due("12: number", edge.taken("10", x -> x.line(0, 10), 0).numberOf(0, 0), 180);
        due("12: number", edge.taken("19", x -> x.line(0, 19), 0).numberOf(0, 0), 189);
        int[] refused = {0, 1, 9, 20, 99, 100, 199};
        for (int figures : refused) {
            edge.refused("refused " + figures, x -> x.line(0, figures), RANGE);
        }
    }

    private static void lineNineAndTenFiguresBehind() {
        Edge nine = new Edge(DUE, "12: nine figures behind", 1, () -> aBlockOf(1888, 12));
        due("12: number", nine.taken("least", x -> x.line(0, 1000000000), 0).numberOf(0, 0), 1888000000000L);
        due("12: number", nine.taken("most", x -> x.line(0, 1999999999), 0).numberOf(0, 0), 1888999999999L);
        nine.refused("2000000000", x -> x.line(0, 2000000000), RANGE);
        nine.refused("MAX", x -> x.line(0, MAX), RANGE);
        nine.refused("199999999", x -> x.line(0, 199999999), RANGE);
        Edge ten = new Edge(DUE, "12: ten figures behind", 1, () -> aBlockOf(188, 12));
        ten.refused("1999999999", x -> x.line(0, 1999999999), RANGE);
        ten.refused("1410065408 (10 and ten zeros, wrapped round)", x -> x.line(0, 1410065408), RANGE);
    }

    private static void lineThereIsOne() {
        Edge edge = busy("12: some line is there");
        edge.refused("there", x -> x.line(0, 1345), NONE);
        edge.refused("came by a lengthening", x -> x.line(8, 1123), NONE);
        edge.taken("ahead of it", x -> x.line(0, 1344), 3);
        edge.taken("behind it", x -> x.line(0, 1346), 3);
        edge.taken("dropped today", x -> x.line(0, 1777), 3);
        edge.taken("its figures on another block", x -> x.line(0, 1123), 3);
        DialDesk x = edge.taken("the split's day", y -> y.now(20), 20);
        due("12: it is on the new block", x.line(6, 1345), NONE);
        due("12: beside it", x.line(6, 1346), 3);
        due("12: now beside it, too", x.line(6, 1346), NONE);
        due("12: not on the rest", x.line(5, 1345), RANGE);
    }

    private static void lineFull() {
        due("12: 300", new Edge(DUE, "12: 299 lines", 300, () -> lines(299)).taken("one more", x -> x.line(0, 19999), 299)
            .count(1), 300);
        Edge full = new Edge(DUE, "12: 300 lines", 301, () -> lines(300));
        full.refused("full", x -> x.line(0, 19999), FULL);
        full.refused("full and there is one", x -> x.line(0, 10299), NONE);
        full.refused("full and wrong", x -> x.line(0, 1999), RANGE);
        Edge dropped = new Edge(DUE, "12: 300 lines with a dropped one", 302, LinesEdgesTest::manyWithADroppedOne);
        dropped.refused("full", x -> x.line(0, 10007), FULL);
    }

    private static DialDesk manyWithADroppedOne() {
        DialDesk x = lines(300);
        x.drop(7);
        return x;
    }

    // ---- promise 13

    private static void dropNoSuchLine() {
        Edge edge = busy("13: drop's line");
        due("13: one less", edge.taken("0", x -> x.drop(0), 1).count(5), 1);
        due("13: one less", edge.taken("2", x -> x.drop(2), 1).count(5), 1);
        edge.refused("-1", x -> x.drop(-1), RANGE);
        edge.refused("3", x -> x.drop(3), RANGE);
        edge.refused("MIN", x -> x.drop(MIN), RANGE);
        edge.refused("MAX", x -> x.drop(MAX), RANGE);
        Edge full = new Edge(DUE, "13: drop of 300", 301, () -> lines(300));
        full.taken("299", x -> x.drop(299), 1);
        full.refused("300", x -> x.drop(300), RANGE);
        due("13: none there", new DialDesk().drop(0), RANGE);
    }

    private static void dropDroppedAlready() {
        busy("13: drop again").refused("today", x -> x.drop(1), RANGE);
        Edge later = new Edge(DUE, "13: drop again", States.BUSY_CALLS, LinesEdgesTest::aDayBehindTheDrop);
        later.refused("a day behind", x -> x.drop(1), RANGE);
        due("13: its end stays", later.taken("a day behind", x -> x.drop(1), RANGE).numberOf(1, 9), 12777);
    }

    private static DialDesk aDayBehindTheDrop() {
        DialDesk x = States.busy();
        x.now(11);
        return x;
    }

    private static void dropFromTheClocksDay() {
        DialDesk x = busy("13: drop's day").taken("on day 10", y -> y.drop(0), 1);
        due("13: the day ahead", x.numberOf(0, 9), 12345);
        due("13: that day", x.numberOf(0, 10), NONE);
        due("13: when it would go on", x.numberOf(0, 20), NONE);
        due("13: led to the day ahead", x.leads(12345, 9), 0);
        due("13: not led to", x.leads(12345, 10), NONE);
        DialDesk ended = aBlockFrom5To8(5);
        ended.line(0, 1000);
        ended.now(8);
        due("13: its block has ended", ended.drop(0), 1);
        due("13: but once", ended.drop(0), RANGE);
    }

    // ---- promise 14

    private static void portNoSuchLine() {
        Edge edge = busy("14: port's line");
        edge.taken("0", x -> x.port(0, 5), 33);
        edge.taken("2", x -> x.port(2, 5), 44);
        edge.refused("-1", x -> x.port(-1, 5), RANGE);
        edge.refused("3", x -> x.port(3, 5), RANGE);
        edge.refused("MIN", x -> x.port(MIN, 5), RANGE);
        edge.refused("MAX", x -> x.port(MAX, 5), RANGE);
    }

    private static void portDropped() {
        Edge edge = busy("14: port of a dropped one");
        edge.refused("dropped today", x -> x.port(1, 5), RANGE);
        Edge later = new Edge(DUE, "14: port of a dropped one", States.BUSY_CALLS, LinesEdgesTest::aDayBehindTheDrop);
        later.refused("a day behind", x -> x.port(1, 5), RANGE);
    }

    private static void portCarrier() {
        Edge edge = busy("14: port's carrier");
        due("14: carrier 0", edge.taken("0", x -> x.port(0, 0), 33).lineAt(0, 10, 1), 0);
        due("14: carrier 99", edge.taken("99", x -> x.port(0, 99), 33).lineAt(0, 10, 1), 99);
        edge.refused("-1", x -> x.port(0, -1), RANGE);
        edge.refused("100", x -> x.port(0, 100), RANGE);
        edge.refused("MIN", x -> x.port(0, MIN), RANGE);
        edge.refused("MAX", x -> x.port(0, MAX), RANGE);
    }

    private static void portAnswersNone() {
        DialDesk x = lines(1);
        due("14: none ahead of the first", x.port(0, 0), NONE);
        due("14: carrier 0 is one", x.port(0, 7), 0);
        due("14: the same day's last", x.port(0, 7), 7);
    }

    /** Two lines with so many portings, all of the first one. */
    private static DialDesk portings(int count) {
        DialDesk x = lines(2);
        for (int i = 0; i < count; i++) {
            x.port(0, i % 100);
        }
        return x;
    }

    private static void portFull() {
        Edge edge = new Edge(DUE, "14: 499 portings", 502, () -> portings(499));
        due("14: the last one", edge.taken("one more", x -> x.port(1, 5), NONE).lineAt(1, 0, 1), 5);
        Edge full = new Edge(DUE, "14: 500 portings", 503, () -> portings(500));
        full.refused("of the same", x -> x.port(0, 5), FULL);
        full.refused("of another", x -> x.port(1, 5), FULL);
        full.refused("full and wrong", x -> x.port(1, 100), RANGE);
        full.refused("full and no such line", x -> x.port(2, 5), RANGE);
        due("14: it stays", full.taken("of the same", x -> x.port(0, 5), FULL).lineAt(0, 0, 1), 99);
    }

    // ---- promise 15

    private static void numberOfNoSuchLine() {
        Edge edge = busy("15: numberOf's line");
        edge.taken("0", x -> x.numberOf(0, 10), 12345);
        edge.taken("2", x -> x.numberOf(2, 10), 1302123);
        edge.refused("-1", x -> x.numberOf(-1, 10), NONE);
        edge.refused("3", x -> x.numberOf(3, 10), NONE);
        edge.refused("MIN", x -> x.numberOf(MIN, 10), NONE);
        edge.refused("MAX", x -> x.numberOf(MAX, 10), NONE);
        due("15: none there", new DialDesk().numberOf(0, 0), NONE);
    }

    private static void numberOfNoSuchDay() {
        Edge edge = new Edge(DUE, "15: numberOf's day", 2, () -> lines(1));
        edge.taken("0", x -> x.numberOf(0, 0), 120000);
        edge.taken("20000", x -> x.numberOf(0, 20000), 120000);
        edge.refused("-1", x -> x.numberOf(0, -1), NONE);
        edge.refused("20001", x -> x.numberOf(0, 20001), NONE);
        edge.refused("MIN", x -> x.numberOf(0, MIN), NONE);
        edge.refused("MAX", x -> x.numberOf(0, MAX), NONE);
    }

    private static void numberOfNotYet() {
        Edge edge = busy("15: not yet");
        edge.taken("4", x -> x.numberOf(0, 4), NONE);
        edge.taken("5", x -> x.numberOf(0, 5), 12345);
    }

    private static void numberOfNotAnyMore() {
        Edge edge = busy("15: not any more");
        edge.taken("9", x -> x.numberOf(1, 9), 12777);
        edge.taken("10", x -> x.numberOf(1, 10), NONE);
        DialDesk x = lines(1);
        x.drop(0);
        due("15: dropped on its first day", x.numberOf(0, 0), NONE);
    }

    private static void numberOfEndedBlock() {
        DialDesk x = aBlockFrom5To8(5);
        x.line(0, 1000);
        due("15: the day ahead of the end", x.numberOf(0, 7), 12000);
        due("15: the end", x.numberOf(0, 8), NONE);
        due("15: the last day", x.numberOf(0, 20000), NONE);
        Edge edge = busy("15: its block ends by a split");
        edge.taken("19", y -> y.numberOf(0, 19), 12345);
        edge.taken("20", y -> y.numberOf(0, 20), 140345);
        edge.taken("7", y -> y.numberOf(2, 7), 130123);
        edge.taken("8", y -> y.numberOf(2, 8), 1302123);
        DialDesk ended = edge.taken("its new block is finished", y -> y.finish(6, 21), 1);
        due("15: one day on it", ended.numberOf(0, 20), 140345);
        due("15: then none", ended.numberOf(0, 21), NONE);
    }

    private static void numberThroughAsManyChangesAsThereCanBe() {
        DialDesk x = new DialDesk();
        x.block(2, 1000, 1, 5, 0);
        x.line(0, 107);
        for (int day = 1; day < 120; day++) {
            due("15: split " + day, x.split(day - 1, 1, 1000 + day, 2, day, 0), day);
        }
        due("15: no more of them", x.split(119, 1, 1999, 2, 120, 0), FULL);
        for (int day = 0; day < 120; day++) {
            due("15: on day " + day, x.numberOf(0, day), (1000 + day) * 100 + 7);
        }
        due("15: from then on", x.numberOf(0, 20000), 111907);
        due("15: led to", x.leads(111907, 20000), 0);
    }

    // ---- promise 16

    private static void lineAtNoSuch() {
        Edge edge = busy("16: lineAt");
        for (int what = 0; what <= 2; what++) {
            int w = what;
            edge.refused("line -1, " + w, x -> x.lineAt(-1, 10, w), NONE);
            edge.refused("line 3, " + w, x -> x.lineAt(3, 10, w), NONE);
            edge.refused("line MIN, " + w, x -> x.lineAt(MIN, 10, w), NONE);
            edge.refused("line MAX, " + w, x -> x.lineAt(MAX, 10, w), NONE);
            edge.refused("day -1, " + w, x -> x.lineAt(0, -1, w), NONE);
            edge.refused("day 20001, " + w, x -> x.lineAt(0, 20001, w), NONE);
            edge.refused("day MIN, " + w, x -> x.lineAt(0, MIN, w), NONE);
            edge.refused("day MAX, " + w, x -> x.lineAt(0, MAX, w), NONE);
        }
        edge.taken("what 0", x -> x.lineAt(0, 10, 0), 0);
        edge.taken("what 2", x -> x.lineAt(2, 10, 2), 1);
        edge.refused("what -1", x -> x.lineAt(0, 10, -1), NONE);
        edge.refused("what 3", x -> x.lineAt(0, 10, 3), NONE);
        edge.refused("what MIN", x -> x.lineAt(0, 10, MIN), NONE);
        edge.refused("what MAX", x -> x.lineAt(0, 10, MAX), NONE);
    }

    /** Rows: the line, the day, and what is due of its block, carrier and area. */
    private static void lineAtDays() {
        int[][] due = {
            {0, 4, -1, -1, -1}, {0, 5, 0, 33, 0}, {0, 19, 0, 33, 0}, {0, 20, 6, 33, 1}, {0, 20000, 6, 33, 1},
            {1, 4, -1, -1, -1}, {1, 5, 0, -1, 0}, {1, 9, 0, -1, 0}, {1, 10, -1, -1, -1}, {1, 20000, -1, -1, -1},
            {2, 4, -1, -1, -1}, {2, 5, 4, -1, 1}, {2, 7, 4, -1, 1}, {2, 8, 8, -1, 1}, {2, 9, 8, 44, 1},
            {2, 39, 8, 44, 1}, {2, 40, -1, -1, -1}, {2, 20000, -1, -1, -1},
        };
        DialDesk x = States.busy();
        x.finish(8, 40);
        for (int[] row : due) {
            for (int what = 0; what <= 2; what++) {
                due("16: lineAt(" + row[0] + ", " + row[1] + ", " + what + ")", x.lineAt(row[0], row[1], what),
                    row[what + 2]);
            }
        }
    }

    private static void lineAtCarrier() {
        DialDesk x = States.busy();
        due("16: the day ahead of its porting", x.lineAt(2, 8, 1), NONE);
        due("16: the day of its porting", x.lineAt(2, 9, 1), 44);
        x.port(2, 55);
        due("16: the day ahead of the next", x.lineAt(2, 9, 1), 44);
        due("16: the day of the next", x.lineAt(2, 10, 1), 55);
        x.port(2, 66);
        due("16: the last of a day", x.lineAt(2, 10, 1), 66);
        due("16: later", x.lineAt(2, 20000, 1), 66);
    }

    private static void lineAtCarrierAheadOfAllPortings() {
        DialDesk x = lines(1);
        x.port(0, 12);
        x.now(1);
        for (int i = 1; i < 500; i++) {
            x.port(0, i % 100);
        }
        due("16: ahead of 499 portings", x.lineAt(0, 0, 1), 12);
        due("16: behind them", x.lineAt(0, 1, 1), 99);
        due("16: no more of them", x.port(0, 5), FULL);
    }
}
