/** Promises 17 to 21: calls, what is told of them, and where numbers lead. */
public final class CallsTest {
    private static final Due DUE = new Due("CallsTest");

    public static void main(String[] args) {
        callsThatCannotBe();
        answers();
        waiting();
        whatCouldFollow();
        theDayOfACall();
        whatStandsNow();
        leadsInOrder();
        leadsOfCalls();
        leadsThatCannotBe();
        theLongestNumber();
        DUE.end();
    }

    private static void due(String call, long got, long due) {
        DUE.is(call, got, due);
    }

    private static int dial(DialDesk x, int k, int... figures) {
        int answer = DialDesk.NONE;
        for (int figure : figures) {
            answer = x.figure(k, figure);
        }
        return answer;
    }

    private static void callsThatCannotBe() {
        DialDesk x = new DialDesk();
        due("call -1", x.call(-1), DialDesk.RANGE);
        due("call 4", x.call(4), DialDesk.RANGE);
        due("figure of call -1", x.figure(-1, 0), DialDesk.RANGE);
        due("figure of call 4", x.figure(4, 0), DialDesk.RANGE);
        due("figure without a call", x.figure(0, 0), DialDesk.NONE);
        due("figure -1", x.figure(0, -1), DialDesk.RANGE);
        due("figure 10", x.figure(0, 10), DialDesk.RANGE);
        due("waits -1", x.waits(-1), DialDesk.RANGE);
        due("waits 4", x.waits(4), DialDesk.RANGE);
        due("waits without a call", x.waits(3), DialDesk.NONE);
        due("told -1", x.told(-1, 0), DialDesk.NONE);
        due("told 4", x.told(4, 0), DialDesk.NONE);
        due("told without a call", x.told(0, 8), DialDesk.NONE);
        x.now(8);
        due("call", x.call(3), 8);
        due("what -1", x.told(3, -1), DialDesk.NONE);
        due("what 11", x.told(3, 11), DialDesk.NONE);
        int[] empty = {0, -1, 0, 8, -1, -1, -1, -1, 0, -1, -1};
        for (int what = 0; what < empty.length; what++) {
            due("empty " + what, x.told(3, what), empty[what]);
        }
        due("others are none", x.told(2, 0), DialDesk.NONE);
        due("wrong without entries", x.figure(3, 0), 3);
    }

    private static void answers() {
        DialDesk x = new DialDesk();
        x.service(112, 7, 0);
        x.block(0, 11, 8, 4, 0);
        x.foreign(112, 5, 6, 0);
        x.call(0);
        due("more", x.figure(0, 1), 0);
        due("waits: a number that begins others", x.figure(0, 2), 2);
        due("more behind it", x.figure(0, 0), 0);
        due("more", x.figure(0, 0), 0);
        due("foreign waits", x.figure(0, 0), 2);
        due("done", x.figure(0, 0), 1);
        due("over", x.figure(0, 0), DialDesk.NONE);
        due("over waits", x.waits(0), DialDesk.NONE);
        due("figures", x.told(0, 0), 6);
        due("answer", x.told(0, 1), 1);
        due("is over", x.told(0, 2), 1);
        x.call(0);
        due("gone", x.told(0, 0), 0);
        due("open again", x.told(0, 2), 0);
        due("no answer", x.told(0, 1), DialDesk.NONE);
        due("wrong", dial(x, 0, 1, 4), 3);
        due("wrong is over", x.figure(0, 0), DialDesk.NONE);
        due("wrong told", x.told(0, 1), 3);
        due("wrong figures", x.told(0, 0), 2);
        due("wrong over", x.told(0, 2), 1);
        x.call(1);
        due("by the set", dial(x, 1, 1, 3, 9, 9), 1);
    }

    private static void waiting() {
        DialDesk x = new DialDesk();
        x.service(112, 7, 0);
        x.foreign(112, 5, 6, 0);
        x.call(0);
        due("waits at once", x.waits(0), 0);
        x.figure(0, 1);
        due("waits at more", x.waits(0), 0);
        due("not over", x.told(0, 2), 0);
        due("goes on", x.figure(0, 2), 2);
        due("waits", x.waits(0), 1);
        due("over", x.told(0, 2), 1);
        due("answer stays", x.told(0, 1), 2);
        due("no figure then", x.figure(0, 2), DialDesk.NONE);
        due("no waiting then", x.waits(0), DialDesk.NONE);
        due("nothing follows", x.told(0, 8), 0);
        due("nor least", x.told(0, 9), DialDesk.NONE);
        due("nor most", x.told(0, 10), DialDesk.NONE);
        due("leads", x.told(0, 4), 0);
        due("service", x.told(0, 7), 7);
    }

    private static void whatCouldFollow() {
        DialDesk x = new DialDesk();
        x.service(1112, 7, 0);
        x.block(0, 11, 8, 4, 0);
        x.block(0, 15, 1023, 12, 0);
        x.foreign(10, 3, 15, 0);
        x.call(0);
        due("first figures", x.told(0, 8), 1 | 2 | 32);
        due("least", x.told(0, 9), 3);
        due("most", x.told(0, 10), 15);
        x.figure(0, 1);
        due("second figures", x.told(0, 8), 2 | 8);
        due("least", x.told(0, 9), 2);
        due("most", x.told(0, 10), 3);
        x.figure(0, 3);
        due("third figures", x.told(0, 8), 1023);
        due("least", x.told(0, 9), 2);
        x.call(0);
        dial(x, 0, 0, 0);
        due("foreign least", x.told(0, 9), 1);
        due("foreign most", x.told(0, 10), 13);
        x.figure(0, 0);
        due("behind a number", x.told(0, 9), 1);
        due("behind a number, most", x.told(0, 10), 12);
        x.call(0);
        due("wrong", x.figure(0, 9), 3);
        due("nothing", x.told(0, 8), 0);
        due("least none", x.told(0, 9), DialDesk.NONE);
        due("most none", x.told(0, 10), DialDesk.NONE);
    }

    private static void theDayOfACall() {
        DialDesk x = new DialDesk();
        x.block(0, 11, 8, 3, 0);
        x.line(0, 130);
        x.finish(0, 5);
        x.service(123, 4, 5);
        x.call(0);
        x.now(5);
        x.call(1);
        due("day of the first", x.told(0, 3), 0);
        due("day of the second", x.told(1, 3), 5);
        due("first goes by its day", x.told(0, 8), 2);
        due("second goes by its day", x.told(1, 8), 4);
        due("done", dial(x, 0, 1, 3, 0), 1);
        due("done then", dial(x, 1, 2, 3), 1);
        due("line of the first", x.told(0, 5), 0);
        x.port(0, 9);
        due("not ported on its day", x.told(0, 6), DialDesk.NONE);
    }

    private static void whatStandsNow() {
        DialDesk x = new DialDesk();
        x.block(0, 11, 8, 3, 0);
        x.now(3);
        x.call(0);
        due("more", dial(x, 0, 1, 3), 0);
        due("finish today", x.finish(0, 3), 1);
        due("nothing follows now", x.told(0, 8), 0);
        due("answer that was given", x.told(0, 1), 0);
        due("not over", x.told(0, 2), 0);
        x.service(113, 8, 3);
        due("leads now", x.told(0, 4), 1);
        due("service now", x.told(0, 7), 8);
        due("waits by its answer", x.waits(0), 0);
        due("wrong now", x.figure(0, 0), 3);
        due("leads to none", x.told(0, 4), DialDesk.NONE);
        x.foreign(11, 3, 4, 3);
        due("leads behind its end", x.told(0, 4), 2);
        due("but nothing follows", x.told(0, 8), 0);
        x.block(5, 14, 2, 3, 3);
        x.call(1);
        dial(x, 1, 4, 1, 0);
        due("no line yet", x.told(1, 5), DialDesk.NONE);
        x.line(3, 110);
        due("a line now", x.told(1, 5), 0);
        x.port(0, 44);
        due("a carrier now", x.told(1, 6), 44);
        x.drop(0);
        due("dropped today", x.told(1, 5), DialDesk.NONE);
        due("nor a carrier", x.told(1, 6), DialDesk.NONE);
    }

    private static void leadsInOrder() {
        DialDesk x = new DialDesk();
        x.foreign(11, 3, 3, 0);
        x.block(0, 11, 8, 3, 0);
        x.split(1, 8, 15, 0, 2, 50);
        x.block(0, 11, 8, 3, 5);
        x.block(0, 11, 8, 3, 4);
        x.service(1130, 3, 7);
        x.finish(5, 6);
        x.finish(4, 9);
        x.finish(6, 8);
        int[][] due = {{0, 1}, {1, 1}, {2, 3}, {3, 3}, {4, 5}, {5, 4}, {6, 4}, {7, 6}, {8, 4}, {9, 3}, {51, 3}, {52, 0}};
        for (int[] row : due) {
            x.now(row[0]);
            x.call(0);
            dial(x, 0, 1, 3, 0);
            due("leads on " + row[0], x.told(0, 4), row[1]);
            due("service on " + row[0], x.told(0, 7), row[1] == 6 ? 3 : -1);
        }
    }

    private static void leadsOfCalls() {
        DialDesk x = new DialDesk();
        x.block(0, 11, 8, 3, 0);
        x.block(0, 11, 8, 3, 0);
        x.line(1, 131);
        due("the least block alone counts", x.leads(1131, 0), DialDesk.NONE);
        x.line(0, 130);
        x.port(1, 12);
        x.split(0, 8, 15, 0, 2, 50);
        x.finish(1, 2);
        x.now(2);
        x.call(0);
        dial(x, 0, 1, 3, 0);
        due("parked entry", x.told(0, 4), 3);
        due("its line", x.told(0, 5), 1);
        due("its carrier", x.told(0, 6), 12);
        due("no service", x.told(0, 7), DialDesk.NONE);
        x.call(1);
        dial(x, 1, 1, 3);
        due("no number", x.told(1, 4), DialDesk.NONE);
        due("no line", x.told(1, 5), DialDesk.NONE);
        due("by the parked number", x.leads(1130, 2), 1);
        due("by the new number", x.leads(1530, 2), 1);
        due("of another", x.leads(1131, 2), DialDesk.NONE);
        x.finish(2, 10);
        due("block of the parked one ended", x.leads(1130, 10), DialDesk.NONE);
        due("ahead of it", x.leads(1130, 9), 1);
    }

    private static void leadsThatCannotBe() {
        DialDesk x = new DialDesk();
        x.service(112, 1, 0);
        x.foreign(13, 2, 15, 0);
        due("short has no line", x.leads(112, 0), DialDesk.NONE);
        due("foreign has no line", x.leads(130, 0), DialDesk.NONE);
        due("no figures", x.leads(1, 0), DialDesk.RANGE);
        due("zero", x.leads(0, 0), DialDesk.RANGE);
        due("negative", x.leads(-112, 0), DialDesk.RANGE);
        due("no 1 ahead", x.leads(212, 0), DialDesk.RANGE);
        due("one figure", x.leads(10, 0), DialDesk.NONE);
        due("15 figures", x.leads(1999999999999999L, 0), DialDesk.NONE);
        due("16 figures", x.leads(10000000000000000L, 0), DialDesk.RANGE);
        due("most long", x.leads(Long.MAX_VALUE, 0), DialDesk.RANGE);
        due("least long", x.leads(Long.MIN_VALUE, 0), DialDesk.RANGE);
        due("day -1", x.leads(112, -1), DialDesk.RANGE);
        due("day 20001", x.leads(112, 20001), DialDesk.RANGE);
        due("day 20000", x.leads(112, 20000), DialDesk.NONE);
    }

    private static void theLongestNumber() {
        DialDesk x = new DialDesk();
        x.foreign(19999, 15, 15, 0);
        x.call(2);
        for (int i = 0; i < 14; i++) {
            due("more " + i, x.figure(2, 9), 0);
            due("left " + i, x.told(2, 10), 14 - i);
        }
        due("done", x.figure(2, 9), 1);
        due("figures", x.told(2, 0), 15);
        due("leads", x.told(2, 4), 0);
        x.block(0, 11234567, 256, 12, 0);
        x.call(3);
        due("more", dial(x, 3, 1, 2, 3, 4, 5, 6, 7), 0);
        due("of the set", x.told(3, 8), 256);
        due("more", dial(x, 3, 8, 0, 0, 0), 0);
        due("any", x.told(3, 8), 1023);
        due("done", dial(x, 3, 9), 1);
    }
}
