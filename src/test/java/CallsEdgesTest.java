/** The boundary cases of promises 17 to 21: what is taken last, what is refused first, and that it leaves no trace. */
public final class CallsEdgesTest {
    private static final Due DUE = new Due("CallsEdgesTest");
    private static final int NONE = DialDesk.NONE;
    private static final int RANGE = DialDesk.RANGE;
    private static final int MIN = Integer.MIN_VALUE;
    private static final int MAX = Integer.MAX_VALUE;

    public static void main(String[] args) {
        callRange();
        callDay();
        callIsNewEachTime();
        figureNoSuchCall();
        figureNoSuchFigure();
        figureNoCall();
        figureOver();
        figuresAtMost();
        figureOnTheEdgesOfDays();
        waitsRange();
        waitsNoCall();
        waitsOver();
        waitsElseNothing();
        waitsOnce();
        toldNoneSuch();
        toldWithoutFigures();
        toldNoneWhenThereIsNone();
        toldOver();
        toldFiguresThatCouldCome();
        leadsNumber();
        leadsDay();
        leadsNone();
        leadsTillTheEnd();
        DUE.end();
    }

    private static void due(String call, long got, long due) {
        DUE.is(call, got, due);
    }

    private static Edge busy(String promise) {
        return new Edge(DUE, promise, States.BUSY_CALLS, States::busy);
    }

    private static void told(DialDesk x, int k, int... due) {
        for (int what = 0; what < due.length; what++) {
            due("20: told(" + k + ", " + what + ")", x.told(k, what), due[what]);
        }
    }

    // ---- promise 17

    private static void callRange() {
        Edge edge = busy("17: call's number");
        edge.taken("0", x -> x.call(0), 10);
        due("17: the last one has begun", edge.taken("3", x -> x.call(3), 10).told(3, 0), 0);
        edge.refused("-1", x -> x.call(-1), RANGE);
        edge.refused("4", x -> x.call(4), RANGE);
        edge.refused("MIN", x -> x.call(MIN), RANGE);
        edge.refused("MAX", x -> x.call(MAX), RANGE);
    }

    private static void callDay() {
        DialDesk x = new DialDesk();
        due("17: on day 0", x.call(0), 0);
        x.now(20000);
        due("17: on day 20000", x.call(1), 20000);
        due("17: the first one's day stays", x.told(0, 3), 0);
        due("17: the second one's", x.told(1, 3), 20000);
    }

    private static void callIsNewEachTime() {
        Edge edge = busy("17: what it was is gone");
        told(edge.taken("MORE", x -> x.call(0), 10), 0, 0, -1, 0, 10, -1, -1, -1, -1, 15, 2, 6);
        told(edge.taken("WAITS", x -> x.call(1), 10), 1, 0, -1, 0, 10, -1, -1, -1, -1, 15, 2, 6);
        told(edge.taken("over", x -> x.call(2), 10), 2, 0, -1, 0, 10, -1, -1, -1, -1, 15, 2, 6);
        DialDesk x = edge.taken("over", y -> y.call(2), 10);
        due("17: open again", x.figure(2, 2), 0);
        due("17: another one is untouched", x.told(0, 0), 2);
    }

    // ---- promise 18

    private static void figureNoSuchCall() {
        Edge edge = busy("18: figure's call");
        edge.taken("0", x -> x.figure(0, 2), 0);
        edge.refused("-1", x -> x.figure(-1, 2), RANGE);
        edge.refused("4", x -> x.figure(4, 2), RANGE);
        edge.refused("MIN", x -> x.figure(MIN, 2), RANGE);
        edge.refused("MAX", x -> x.figure(MAX, 2), RANGE);
        DialDesk x = edge.taken("call 3 begins", y -> y.call(3), 10);
        due("18: of the last call", x.figure(3, 2), 0);
    }

    private static void figureNoSuchFigure() {
        Edge edge = busy("18: figure");
        due("18: one more", edge.taken("0", x -> x.figure(0, 0), 0).told(0, 0), 3);
        due("18: one more", edge.taken("9", x -> x.figure(0, 9), 0).told(0, 0), 3);
        edge.refused("-1", x -> x.figure(0, -1), RANGE);
        edge.refused("10", x -> x.figure(0, 10), RANGE);
        edge.refused("MIN", x -> x.figure(0, MIN), RANGE);
        edge.refused("MAX", x -> x.figure(0, MAX), RANGE);
        edge.refused("10 of one that waits", x -> x.figure(1, 10), RANGE);
        edge.refused("10 of one that is over", x -> x.figure(2, 10), RANGE);
        edge.refused("-1 without a call", x -> x.figure(3, -1), RANGE);
    }

    private static void figureNoCall() {
        Edge edge = busy("18: no call");
        edge.refused("0", x -> x.figure(3, 0), NONE);
        edge.refused("9", x -> x.figure(3, 9), NONE);
        Edge empty = new Edge(DUE, "18: no call at all", 0, DialDesk::new);
        empty.refused("call 0", x -> x.figure(0, 0), NONE);
        empty.refused("call 3", x -> x.figure(3, 0), NONE);
    }

    private static DialDesk overByDone() {
        DialDesk x = States.busy();
        x.figure(0, 4);
        x.figure(0, 5);
        return x;
    }

    private static DialDesk overByWaiting() {
        DialDesk x = States.busy();
        x.waits(1);
        return x;
    }

    private static Edge done(String promise) {
        return new Edge(DUE, promise, States.BUSY_CALLS, CallsEdgesTest::overByDone);
    }

    private static Edge waited(String promise) {
        return new Edge(DUE, promise, States.BUSY_CALLS, CallsEdgesTest::overByWaiting);
    }

    private static void figureOver() {
        busy("18: over").refused("by WRONG", x -> x.figure(2, 9), NONE);
        done("18: over").refused("by DONE", x -> x.figure(0, 0), NONE);
        waited("18: over").refused("by waiting", x -> x.figure(1, 2), NONE);
        DialDesk x = States.busy();
        due("18: WAITS alone is not over", x.figure(1, 2), 1);
    }

    private static DialDesk foreignOfMost15(int figures) {
        DialDesk x = new DialDesk();
        x.foreign(10, 2, 15, 0);
        x.call(0);
        for (int i = 0; i < figures; i++) {
            x.figure(0, 0);
        }
        return x;
    }

    private static void figuresAtMost() {
        int[] answers = {0, 2, 2, 2, 2, 2, 2, 2, 2, 2, 2, 2, 2, 2, 1};
        for (int before = 0; before < answers.length; before++) {
            DialDesk x = foreignOfMost15(before);
            due("18: figures", x.told(0, 0), before);
            due("18: figure " + (before + 1), x.figure(0, 0), answers[before]);
            due("18: figures then", x.told(0, 0), before + 1);
            due("18: still to come", x.told(0, 10), before == 14 ? NONE : 14 - before);
        }
        new Edge(DUE, "18: 15 figures", 17, () -> foreignOfMost15(15)).refused("16", x -> x.figure(0, 0), NONE);
        DialDesk ended = foreignOfMost15(14);
        ended.now(1);
        ended.finish(0, 1);
        due("18: the 15th goes by its day", ended.figure(0, 0), 1);
    }

    private static void figureOnTheEdgesOfDays() {
        int[][] due = {{4, 3}, {5, 0}, {7, 0}, {8, 3}};
        for (int[] row : due) {
            DialDesk x = new DialDesk();
            x.block(2, 12, 3, 4, 5);
            x.finish(0, 8);
            x.now(row[0]);
            x.call(0);
            due("18: on day " + row[0], x.figure(0, 2), row[1]);
        }
    }

    // ---- promise 19

    private static void waitsRange() {
        Edge edge = busy("19: waits' call");
        edge.taken("0", x -> x.waits(0), 0);
        edge.taken("1", x -> x.waits(1), 1);
        edge.refused("-1", x -> x.waits(-1), RANGE);
        edge.refused("4", x -> x.waits(4), RANGE);
        edge.refused("MIN", x -> x.waits(MIN), RANGE);
        edge.refused("MAX", x -> x.waits(MAX), RANGE);
        DialDesk x = edge.taken("call 3 begins", y -> y.call(3), 10);
        due("19: of the last call", x.waits(3), 0);
    }

    private static void waitsNoCall() {
        busy("19: no call").refused("3", x -> x.waits(3), NONE);
        new Edge(DUE, "19: no call at all", 0, DialDesk::new).refused("0", x -> x.waits(0), NONE);
    }

    private static void waitsOver() {
        busy("19: over").refused("by WRONG", x -> x.waits(2), NONE);
        done("19: over").refused("by DONE", x -> x.waits(0), NONE);
        waited("19: over").refused("by waiting", x -> x.waits(1), NONE);
    }

    private static void waitsElseNothing() {
        busy("19: MORE").refused("goes on", x -> x.waits(0), 0);
        Edge empty = new Edge(DUE, "19: without figures", 1, CallsEdgesTest::aCallWithoutFigures);
        empty.refused("goes on", x -> x.waits(0), 0);
    }

    private static DialDesk aCallWithoutFigures() {
        DialDesk x = new DialDesk();
        x.call(0);
        return x;
    }

    private static void waitsOnce() {
        DialDesk x = busy("19: WAITS").taken("is over then", y -> y.waits(1), 1);
        due("19: over", x.told(1, 2), 1);
        due("19: the answer stays", x.told(1, 1), 2);
        due("19: the figures stay", x.told(1, 0), 2);
        due("19: it leads", x.told(1, 4), 1);
        due("19: not again", x.waits(1), NONE);
    }

    // ---- promise 20

    private static void toldNoneSuch() {
        Edge edge = busy("20: told");
        int[] calls = {MIN, -1, 3, 4, MAX};
        for (int k : calls) {
            for (int what = 0; what <= 10; what++) {
                int w = what;
                edge.refused("call " + k + ", " + w, x -> x.told(k, w), NONE);
            }
        }
        int[] whats = {MIN, -1, 11, MAX};
        for (int what : whats) {
            edge.refused("what " + what, x -> x.told(0, what), NONE);
            edge.refused("what " + what + " of one that is over", x -> x.told(2, what), NONE);
        }
        edge.taken("what 0", x -> x.told(0, 0), 2);
        edge.taken("what 10", x -> x.told(0, 10), 2);
    }

    private static void toldWithoutFigures() {
        told(aCallWithoutFigures(), 0, 0, -1, 0, 0, -1, -1, -1, -1, 0, -1, -1);
        DialDesk x = States.busy();
        x.call(3);
        told(x, 3, 0, -1, 0, 10, -1, -1, -1, -1, 15, 2, 6);
    }

    private static void toldNoneWhenThereIsNone() {
        DialDesk x = States.busy();
        told(x, 0, 2, 0, 0, 10, -1, -1, -1, -1, 1023, 2, 2);
        x.figure(0, 4);
        x.figure(0, 4);
        told(x, 0, 4, 1, 1, 10, 0, -1, -1, -1, 0, -1, -1);
        x.call(0);
        for (int figure : new int[] {2, 3, 4, 5}) {
            x.figure(0, figure);
        }
        told(x, 0, 4, 1, 1, 10, 0, 0, 33, -1, 0, -1, -1);
        told(x, 1, 2, 2, 0, 10, 1, -1, -1, 6, 4, 1, 1);
        x.line(0, 1000);
        x.call(0);
        for (int figure : new int[] {2, 0, 0, 0}) {
            x.figure(0, figure);
        }
        told(x, 0, 4, 1, 1, 10, 0, 3, -1, -1, 0, -1, -1);
        x.call(0);
        for (int figure : new int[] {0, 0, 1, 1}) {
            x.figure(0, figure);
        }
        told(x, 0, 4, 2, 0, 10, 3, -1, -1, -1, 1023, 1, 2);
    }

    private static void toldOver() {
        told(States.busy(), 2, 1, 3, 1, 10, -1, -1, -1, -1, 0, -1, -1);
        told(overByDone(), 0, 4, 1, 1, 10, 0, 0, 33, -1, 0, -1, -1);
        told(overByWaiting(), 1, 2, 2, 1, 10, 1, -1, -1, 6, 0, -1, -1);
    }

    private static void toldFiguresThatCouldCome() {
        DialDesk x = new DialDesk();
        x.block(0, 10, 1, 12, 0);
        x.block(0, 19, 512, 2, 0);
        x.call(0);
        due("20: figures 0 and 9", x.told(0, 8), 513);
        due("20: least", x.told(0, 9), 2);
        due("20: most", x.told(0, 10), 12);
        x.figure(0, 0);
        due("20: figure 0", x.told(0, 8), 1);
        due("20: least", x.told(0, 9), 11);
        due("20: most", x.told(0, 10), 11);
        x.figure(0, 0);
        due("20: any figure", x.told(0, 8), 1023);
        x.call(1);
        x.figure(1, 9);
        due("20: figure 9", x.told(1, 8), 512);
        due("20: the last one", x.told(1, 9), 1);
        due("20: the last one at most", x.told(1, 10), 1);
    }

    // ---- promise 21

    private static void leadsNumber() {
        Edge edge = busy("21: leads' number");
        long least = 1;
        for (int figures = 1; figures <= 15; figures++) {
            least *= 10;
            long first = least;
            edge.taken("the least of " + figures, x -> x.leads(first, 10), NONE);
            edge.taken("the most of " + figures, x -> x.leads(2 * first - 1, 10), NONE);
            edge.refused("below the least of " + figures, x -> x.leads(first - 1, 10), RANGE);
            edge.refused("above the most of " + figures, x -> x.leads(2 * first, 10), RANGE);
        }
        long[] refused = {Long.MIN_VALUE, MIN, -12345, -1, 0, 1, 2, 9, 20, 99, 22345, 2000000000000000L,
            9999999999999999L, 10000000000000000L, 19999999999999999L, 1000000000000000000L, 1999999999999999999L,
            Long.MAX_VALUE, (1L << 32) + 12345};
        for (long number : refused) {
            edge.refused("refused " + number, x -> x.leads(number, 10), RANGE);
        }
        edge.taken("a line", x -> x.leads(12345, 10), 0);
    }

    private static void leadsDay() {
        Edge edge = busy("21: leads' day");
        edge.taken("0", x -> x.leads(12345, 0), NONE);
        edge.taken("20000", x -> x.leads(140345, 20000), 0);
        edge.refused("-1", x -> x.leads(12345, -1), RANGE);
        edge.refused("20001", x -> x.leads(140345, 20001), RANGE);
        edge.refused("MIN", x -> x.leads(12345, MIN), RANGE);
        edge.refused("MAX", x -> x.leads(12345, MAX), RANGE);
    }

    private static void leadsNone() {
        Edge edge = busy("21: leads to none");
        edge.refused("no number of any", x -> x.leads(19999, 10), NONE);
        edge.refused("a beginning alone", x -> x.leads(1234, 10), NONE);
        edge.refused("a figure too many", x -> x.leads(123450, 10), NONE);
        edge.refused("no line there", x -> x.leads(12346, 10), NONE);
        edge.refused("a dropped one", x -> x.leads(12777, 10), NONE);
        edge.refused("a short one", x -> x.leads(1112, 10), NONE);
        edge.refused("a foreign one", x -> x.leads(10011, 10), NONE);
        due("21: no entries", new DialDesk().leads(12345, 0), NONE);
    }

    private static void leadsTillTheEnd() {
        Edge edge = busy("21: leads on");
        long[][] due = {
            {12345, 4, -1}, {12345, 5, 0}, {12345, 19, 0}, {12345, 20, 0}, {12345, 49, 0}, {12345, 50, -1},
            {140345, 19, -1}, {140345, 20, 0}, {130123, 7, 2}, {130123, 8, 2}, {130123, 17, 2}, {130123, 18, -1},
            {1302123, 7, -1}, {1302123, 8, 2}, {12777, 9, 1}, {12777, 10, -1},
        };
        for (long[] row : due) {
            edge.taken(row[0] + " on " + row[1], x -> x.leads(row[0], (int) row[1]), row[2]);
        }
    }
}
