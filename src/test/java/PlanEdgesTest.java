/** The boundary cases of promises 1 to 11: what is taken last, what is refused first, and that it leaves no trace. */
public final class PlanEdgesTest {
    private static final Due DUE = new Due("PlanEdgesTest");
    private static final int NONE = DialDesk.NONE;
    private static final int RANGE = DialDesk.RANGE;
    private static final int FULL = DialDesk.FULL;
    private static final int MIN = Integer.MIN_VALUE;
    private static final int MAX = Integer.MAX_VALUE;

    public static void main(String[] args) {
        newObjectIsEmpty();
        newObjectsShareNothing();
        nowBelowTheClock();
        nowAbove20000();
        blockDay();
        blockArea();
        blockPrefix();
        blockSet();
        blockLength();
        blockFull();
        serviceNumber();
        serviceService();
        serviceDay();
        serviceFull();
        foreignPrefix();
        foreignLengths();
        foreignDay();
        foreignFull();
        finishNoSuchEntry();
        finishNoParkedOne();
        finishNotAheadOfTheClock();
        finishBehindItsFirstDay();
        finishAheadOfItsEnd();
        finishUpTo20000();
        finishOfABlockWithAParkedOne();
        finishOfAChangedBlock();
        splitNoSuchBlock();
        splitSet();
        splitPrefix();
        splitArea();
        splitDay();
        splitOfAChangedBlock();
        splitDays();
        splitLength();
        splitFull();
        splitEnds();
        lengthenNoSuchBlock();
        lengthenFigure();
        lengthenDay();
        lengthenOfAChangedBlock();
        lengthenDays();
        lengthenPrefix();
        lengthenLength();
        lengthenFull();
        lengthenEnds();
        entryNoneSuch();
        entryOfEachKind();
        pairsRange();
        pairsEmptyAndFull();
        pairNone();
        pairAtTheEdgesOfDays();
        DUE.end();
    }

    private static void due(String call, long got, long due) {
        DUE.is(call, got, due);
    }

    private static Edge busy(String promise) {
        return new Edge(DUE, promise, States.BUSY_CALLS, States::busy);
    }

    private static Edge blocks(String promise, int count) {
        return new Edge(DUE, promise, count, () -> States.blocks(count));
    }

    // ---- promise 1

    private static void newObjectIsEmpty() {
        DialDesk x = new DialDesk();
        for (int what = 0; what <= 5; what++) {
            due("1: count " + what, x.count(what), 0);
        }
        for (int what = 0; what <= 8; what++) {
            due("1: no entry, " + what, x.entry(0, what), NONE);
        }
        for (int area = 0; area < 16; area++) {
            due("1: no shortage of " + area, x.shortage(area), NONE);
            due("1: no room of " + area, x.room(area, 0), 0);
            due("1: no relief of " + area, x.relief(area, 1), NONE);
            due("1: no demand of " + area, x.demand(area, 0, 0), 0);
        }
        for (int k = 0; k < 4; k++) {
            due("1: no call " + k, x.told(k, 0), NONE);
            due("1: nor waits " + k, x.waits(k), NONE);
            due("1: nor figures " + k, x.figure(k, 0), NONE);
        }
        due("1: no pairs", x.pairs(0), 0);
        due("1: no pair", x.pair(0, 0, 0), NONE);
        due("1: no line", x.numberOf(0, 0), NONE);
        due("1: leads to none", x.leads(112, 0), NONE);
        due("1: no option", x.take(0), RANGE);
        due("1: no line to drop", x.drop(0), RANGE);
        due("1: no line to port", x.port(0, 0), RANGE);
        due("1: day 0 is not ahead of the clock", x.block(0, 12, 1, 3, 0), 0);
    }

    private static void newObjectsShareNothing() {
        DialDesk x = new DialDesk();
        DialDesk busy = States.busy();
        for (int what = 0; what <= 5; what++) {
            due("1: beside a busy one, count " + what, x.count(what), 0);
        }
        due("1: no entry of the other's", x.entry(0, 0), NONE);
        due("1: nor call", x.told(0, 0), NONE);
        due("1: nor demand", x.shortage(15), NONE);
        x.block(15, 12, 1, 3, 0);
        x.line(0, 100);
        x.now(3);
        x.call(0);
        x.demand(15, 3, 0);
        x.mightCome(15, 18, 1, 3, 3, 0);
        int[] counts = {10, 3, 3, 10, 6, 2};
        for (int what = 0; what < counts.length; what++) {
            due("1: the busy one's count " + what, busy.count(what), counts[what]);
        }
        due("1: the busy one's call", busy.told(0, 0), 2);
        due("1: the busy one's demand", busy.demand(15, 0, 0), 7);
    }

    // ---- promise 2

    private static void nowBelowTheClock() {
        Edge first = new Edge(DUE, "2: now at day 0", 0, DialDesk::new);
        first.refused("-1", x -> x.now(-1), RANGE);
        first.refused("MIN", x -> x.now(MIN), RANGE);
        due("2: the clock at 0", first.taken("0", x -> x.now(0), 0).count(3), 0);
        Edge later = busy("2: now at day 10");
        later.refused("9", x -> x.now(9), RANGE);
        later.refused("0", x -> x.now(0), RANGE);
        later.refused("-1", x -> x.now(-1), RANGE);
        due("2: the clock stays", later.taken("10", x -> x.now(10), 10).count(3), 10);
        due("2: the clock goes on", later.taken("11", x -> x.now(11), 11).count(3), 11);
    }

    private static void nowAbove20000() {
        Edge edge = busy("2: now far on");
        due("2: the clock at the end", edge.taken("20000", x -> x.now(20000), 20000).count(3), 20000);
        edge.refused("20001", x -> x.now(20001), RANGE);
        edge.refused("MAX", x -> x.now(MAX), RANGE);
        Edge last = new Edge(DUE, "2: now on the last day", 1, PlanEdgesTest::onTheLastDay);
        last.taken("20000", x -> x.now(20000), 20000);
        last.refused("19999", x -> x.now(19999), RANGE);
        last.refused("20001", x -> x.now(20001), RANGE);
    }

    private static DialDesk onTheLastDay() {
        DialDesk x = new DialDesk();
        x.now(20000);
        return x;
    }

    // ---- promise 3

    private static void blockDay() {
        Edge edge = busy("3: block's day");
        due("3: in force at once", edge.taken("10", x -> x.block(0, 18, 1, 3, 10), 10).room(0, 10), 1010);
        edge.refused("9", x -> x.block(0, 18, 1, 3, 9), RANGE);
        edge.refused("0", x -> x.block(0, 18, 1, 3, 0), RANGE);
        edge.refused("-1", x -> x.block(0, 18, 1, 3, -1), RANGE);
        edge.refused("MIN", x -> x.block(0, 18, 1, 3, MIN), RANGE);
        DialDesk last = edge.taken("20000", x -> x.block(15, 18, 1, 3, 20000), 10);
        due("3: not yet", last.room(15, 19999), 0);
        due("3: on the last day", last.room(15, 20000), 10);
        edge.refused("20001", x -> x.block(0, 18, 1, 3, 20001), RANGE);
        edge.refused("MAX", x -> x.block(0, 18, 1, 3, MAX), RANGE);
    }

    private static void blockArea() {
        Edge edge = busy("3: block's area");
        due("3: area 0", edge.taken("0", x -> x.block(0, 18, 1, 3, 10), 10).entry(10, 1), 0);
        due("3: area 15", edge.taken("15", x -> x.block(15, 18, 1, 3, 10), 10).entry(10, 1), 15);
        edge.refused("-1", x -> x.block(-1, 18, 1, 3, 10), RANGE);
        edge.refused("16", x -> x.block(16, 18, 1, 3, 10), RANGE);
        edge.refused("MIN", x -> x.block(MIN, 18, 1, 3, 10), RANGE);
        edge.refused("MAX", x -> x.block(MAX, 18, 1, 3, 10), RANGE);
    }

    private static void blockPrefix() {
        Edge edge = busy("3: block's prefix");
        int[] taken = {10, 19, 100, 199, 1000, 1999, 10000, 19999, 100000, 199999, 1000000, 1999999, 10000000, 19999999};
        for (int prefix : taken) {
            DialDesk x = edge.taken("taken " + prefix, y -> y.block(0, prefix, 1, 12, 10), 10);
            due("3: prefix " + prefix, x.entry(10, 2), prefix);
        }
        int[] refused = {MIN, -10, -1, 0, 1, 2, 9, 20, 99, 200, 999, 20000000, 99999999, 100000000, 199999999,
            1000000000, 1999999999, MAX};
        for (int prefix : refused) {
            edge.refused("refused " + prefix, x -> x.block(0, prefix, 1, 12, 10), RANGE);
        }
    }

    private static void blockSet() {
        Edge edge = busy("3: block's set");
        due("3: one number", edge.taken("1", x -> x.block(15, 18, 1, 2, 10), 10).room(15, 10), 1);
        due("3: the last figure", edge.taken("512", x -> x.block(15, 18, 512, 2, 10), 10).entry(10, 3), 512);
        due("3: ten numbers", edge.taken("1023", x -> x.block(15, 18, 1023, 2, 10), 10).room(15, 10), 10);
        edge.refused("0", x -> x.block(15, 18, 0, 2, 10), RANGE);
        edge.refused("-1", x -> x.block(15, 18, -1, 2, 10), RANGE);
        edge.refused("1024", x -> x.block(15, 18, 1024, 2, 10), RANGE);
        edge.refused("1025", x -> x.block(15, 18, 1025, 2, 10), RANGE);
        edge.refused("MIN", x -> x.block(15, 18, MIN, 2, 10), RANGE);
        edge.refused("MAX", x -> x.block(15, 18, MAX, 2, 10), RANGE);
    }

    private static void blockLength() {
        Edge edge = busy("3: block's length");
        int prefix = 1;
        for (int places = 1; places <= 7; places++) {
            prefix = prefix * 10 + 8;
            int p = prefix;
            int least = places + 1;
            due("3: least", edge.taken(p + " of " + least, x -> x.block(15, p, 1, least, 10), 10).room(15, 10), 1);
            due("3: most", edge.taken(p + " of 12", x -> x.block(15, p, 1, 12, 10), 10).entry(10, 4), 12);
            edge.refused(p + " of " + (least - 1), x -> x.block(15, p, 1, least - 1, 10), RANGE);
            edge.refused(p + " of 13", x -> x.block(15, p, 1, 13, 10), RANGE);
        }
        edge.refused("0", x -> x.block(15, 18, 1, 0, 10), RANGE);
        edge.refused("MIN", x -> x.block(15, 18, 1, MIN, 10), RANGE);
        edge.refused("MAX", x -> x.block(15, 18, 1, MAX, 10), RANGE);
    }

    private static void blockFull() {
        due("3: the last one", blocks("3: 119 entries", 119).taken("one more", x -> x.block(0, 18, 1, 3, 0), 119)
            .count(0), 120);
        Edge full = blocks("3: 120 entries", 120);
        full.refused("full", x -> x.block(0, 18, 1, 3, 0), FULL);
        full.refused("full and wrong", x -> x.block(16, 18, 1, 3, 0), RANGE);
    }

    // ---- promise 4

    private static void serviceNumber() {
        Edge edge = busy("4: service's number");
        int[] taken = {100, 199, 1000, 1999, 10000, 19999, 100000, 199999, 1000000, 1999999, 10000000, 19999999};
        for (int number : taken) {
            DialDesk x = edge.taken("taken " + number, y -> y.service(number, 5, 10), 10);
            due("4: figures " + number, x.entry(10, 2), number);
            due("4: length of " + number, x.entry(10, 4), String.valueOf(number).length() - 1);
        }
        int[] refused = {MIN, -100, -1, 0, 1, 9, 10, 19, 20, 99, 200, 999, 20000000, 99999999, 100000000, 199999999,
            1999999999, MAX};
        for (int number : refused) {
            edge.refused("refused " + number, x -> x.service(number, 5, 10), RANGE);
        }
    }

    private static void serviceService() {
        Edge edge = busy("4: service's service");
        due("4: service 0", edge.taken("0", x -> x.service(188, 0, 10), 10).entry(10, 1), 0);
        due("4: service 99", edge.taken("99", x -> x.service(188, 99, 10), 10).entry(10, 1), 99);
        edge.refused("-1", x -> x.service(188, -1, 10), RANGE);
        edge.refused("100", x -> x.service(188, 100, 10), RANGE);
        edge.refused("MIN", x -> x.service(188, MIN, 10), RANGE);
        edge.refused("MAX", x -> x.service(188, MAX, 10), RANGE);
    }

    private static void serviceDay() {
        Edge edge = busy("4: service's day");
        due("4: in force at once", edge.taken("10", x -> x.service(188, 5, 10), 10).count(4), 7);
        due("4: not yet", edge.taken("11", x -> x.service(188, 5, 11), 10).count(4), 6);
        due("4: the last day", edge.taken("20000", x -> x.service(188, 5, 20000), 10).entry(10, 6), 20000);
        edge.refused("9", x -> x.service(188, 5, 9), RANGE);
        edge.refused("-1", x -> x.service(188, 5, -1), RANGE);
        edge.refused("20001", x -> x.service(188, 5, 20001), RANGE);
        edge.refused("MIN", x -> x.service(188, 5, MIN), RANGE);
        edge.refused("MAX", x -> x.service(188, 5, MAX), RANGE);
    }

    private static void serviceFull() {
        blocks("4: 119 entries", 119).taken("one more", x -> x.service(188, 5, 0), 119);
        Edge full = blocks("4: 120 entries", 120);
        full.refused("full", x -> x.service(188, 5, 0), FULL);
        full.refused("full and wrong", x -> x.service(188, 100, 0), RANGE);
    }

    // ---- promise 5

    private static void foreignPrefix() {
        Edge edge = busy("5: foreign's prefix");
        int[] taken = {10, 19, 100, 199, 1000, 1999, 10000, 19999};
        for (int prefix : taken) {
            DialDesk x = edge.taken("taken " + prefix, y -> y.foreign(prefix, 5, 6, 10), 10);
            due("5: prefix " + prefix, x.entry(10, 2), prefix);
        }
        int[] refused = {MIN, -10, -1, 0, 1, 9, 20, 99, 200, 20000, 99999, 100000, 199999, 1999999999, MAX};
        for (int prefix : refused) {
            edge.refused("refused " + prefix, x -> x.foreign(prefix, 7, 8, 10), RANGE);
        }
    }

    private static void foreignLengths() {
        Edge edge = busy("5: foreign's lengths");
        int prefix = 1;
        for (int places = 1; places <= 4; places++) {
            prefix = prefix * 10 + 8;
            int p = prefix;
            int least = places + 1;
            due("5: least", edge.taken(p + " from " + least, x -> x.foreign(p, least, 15, 10), 10).entry(10, 4), least);
            edge.taken(p + " of " + least + " alone", x -> x.foreign(p, least, least, 10), 10);
            edge.refused(p + " from " + places, x -> x.foreign(p, least - 1, 15, 10), RANGE);
            edge.refused(p + " of " + places + " alone", x -> x.foreign(p, least - 1, least - 1, 10), RANGE);
            edge.refused(p + " most below least", x -> x.foreign(p, least + 1, least, 10), RANGE);
        }
        due("5: most", edge.taken("up to 15", x -> x.foreign(18, 2, 15, 10), 10).entry(10, 5), 15);
        edge.taken("15 alone", x -> x.foreign(18, 15, 15, 10), 10);
        edge.refused("up to 16", x -> x.foreign(18, 2, 16, 10), RANGE);
        edge.refused("16 alone", x -> x.foreign(18, 16, 16, 10), RANGE);
        edge.refused("least MIN", x -> x.foreign(18, MIN, 15, 10), RANGE);
        edge.refused("least MAX", x -> x.foreign(18, MAX, 15, 10), RANGE);
        edge.refused("most MIN", x -> x.foreign(18, 2, MIN, 10), RANGE);
        edge.refused("most MAX", x -> x.foreign(18, 2, MAX, 10), RANGE);
    }

    private static void foreignDay() {
        Edge edge = busy("5: foreign's day");
        due("5: in force at once", edge.taken("10", x -> x.foreign(18, 5, 6, 10), 10).count(4), 7);
        due("5: not yet", edge.taken("11", x -> x.foreign(18, 5, 6, 11), 10).count(4), 6);
        due("5: the last day", edge.taken("20000", x -> x.foreign(18, 5, 6, 20000), 10).entry(10, 6), 20000);
        edge.refused("9", x -> x.foreign(18, 5, 6, 9), RANGE);
        edge.refused("-1", x -> x.foreign(18, 5, 6, -1), RANGE);
        edge.refused("20001", x -> x.foreign(18, 5, 6, 20001), RANGE);
        edge.refused("MIN", x -> x.foreign(18, 5, 6, MIN), RANGE);
        edge.refused("MAX", x -> x.foreign(18, 5, 6, MAX), RANGE);
    }

    private static void foreignFull() {
        blocks("5: 119 entries", 119).taken("one more", x -> x.foreign(18, 5, 6, 0), 119);
        Edge full = blocks("5: 120 entries", 120);
        full.refused("full", x -> x.foreign(18, 5, 6, 0), FULL);
        full.refused("full and wrong", x -> x.foreign(18, 5, 16, 0), RANGE);
    }

    // ---- promise 6

    private static void finishNoSuchEntry() {
        Edge edge = busy("6: finish's entry");
        due("6: the first", edge.taken("0", x -> x.finish(0, 11), 1).entry(0, 7), 11);
        due("6: the last block", edge.taken("8", x -> x.finish(8, 11), 1).entry(8, 7), 11);
        edge.refused("-1", x -> x.finish(-1, 11), RANGE);
        edge.refused("10", x -> x.finish(10, 11), RANGE);
        edge.refused("120", x -> x.finish(120, 11), RANGE);
        edge.refused("MIN", x -> x.finish(MIN, 11), RANGE);
        edge.refused("MAX", x -> x.finish(MAX, 11), RANGE);
        Edge full = blocks("6: finish with 120", 120);
        due("6: the 120th", full.taken("119", x -> x.finish(119, 1), 1).entry(119, 7), 1);
        full.refused("120", x -> x.finish(120, 1), RANGE);
    }

    private static void finishNoParkedOne() {
        Edge edge = busy("6: finish's kind");
        due("6: a block", edge.taken("block", x -> x.finish(5, 30), 1).entry(5, 7), 30);
        due("6: a short one", edge.taken("short", x -> x.finish(1, 30), 1).entry(1, 7), 30);
        due("6: a foreign one", edge.taken("foreign", x -> x.finish(3, 30), 1).entry(3, 7), 30);
        edge.refused("parked to come", x -> x.finish(7, 30), RANGE);
        edge.refused("parked in force", x -> x.finish(9, 12), RANGE);
    }

    private static void finishNotAheadOfTheClock() {
        Edge edge = busy("6: finish and the clock");
        due("6: ends today", edge.taken("10", x -> x.finish(2, 10), 1).count(4), 5);
        due("6: ends tomorrow", edge.taken("11", x -> x.finish(2, 11), 1).count(4), 6);
        edge.refused("9", x -> x.finish(2, 9), RANGE);
        edge.refused("1", x -> x.finish(2, 1), RANGE);
        edge.refused("0", x -> x.finish(2, 0), RANGE);
        edge.refused("-1", x -> x.finish(2, -1), RANGE);
        edge.refused("MIN", x -> x.finish(2, MIN), RANGE);
    }

    private static void finishBehindItsFirstDay() {
        Edge edge = busy("6: finish and the first day");
        due("6: one day", edge.taken("21", x -> x.finish(5, 21), 1).entry(5, 7), 21);
        edge.refused("20", x -> x.finish(5, 20), RANGE);
        edge.refused("19", x -> x.finish(5, 19), RANGE);
        Edge today = new Edge(DUE, "6: finish of what begins today", 2, PlanEdgesTest::aServiceOfToday);
        today.refused("4", x -> x.finish(0, 4), RANGE);
        today.taken("5", x -> x.finish(0, 5), 1);
        Edge last = new Edge(DUE, "6: finish of what begins on the last day", 1, PlanEdgesTest::aServiceOfTheLastDay);
        last.refused("20000", x -> x.finish(0, 20000), RANGE);
        last.refused("20001", x -> x.finish(0, 20001), RANGE);
    }

    private static DialDesk aServiceOfToday() {
        DialDesk x = new DialDesk();
        x.now(4);
        x.service(112, 1, 4);
        return x;
    }

    private static DialDesk aServiceOfTheLastDay() {
        DialDesk x = new DialDesk();
        x.service(112, 1, 20000);
        return x;
    }

    private static void finishAheadOfItsEnd() {
        Edge edge = busy("6: finish and the end");
        due("6: a day sooner", edge.taken("49", x -> x.finish(3, 49), 1).entry(3, 7), 49);
        edge.refused("50", x -> x.finish(3, 50), RANGE);
        edge.refused("51", x -> x.finish(3, 51), RANGE);
        edge.refused("of what has ended", x -> x.finish(4, 10), RANGE);
        Edge today = new Edge(DUE, "6: finish of what ends today", 3, PlanEdgesTest::aServiceTillToday);
        today.refused("8", x -> x.finish(0, 8), RANGE);
        today.refused("7", x -> x.finish(0, 7), RANGE);
    }

    private static DialDesk aServiceTillToday() {
        DialDesk x = new DialDesk();
        x.service(112, 1, 4);
        x.finish(0, 8);
        x.now(8);
        return x;
    }

    private static void finishUpTo20000() {
        Edge edge = busy("6: finish far on");
        due("6: the last day", edge.taken("20000", x -> x.finish(2, 20000), 1).entry(2, 7), 20000);
        edge.refused("20001", x -> x.finish(2, 20001), RANGE);
        edge.refused("MAX", x -> x.finish(2, MAX), RANGE);
    }

    private static void finishOfABlockWithAParkedOne() {
        DialDesk x = busy("6: finish of a block").taken("its PARKED one is to end", y -> y.finish(8, 13), 1);
        due("6: the PARKED one stays", x.entry(9, 7), 18);
        due("6: a NUMBER the day ahead", x.numberOf(2, 12), 1302123);
        due("6: none then", x.numberOf(2, 13), NONE);
        due("6: led to the day ahead", x.leads(130123, 12), 2);
        due("6: by the PARKED number no more", x.leads(130123, 13), NONE);
        x.now(13);
        due("6: no LINE has one but line 0", x.count(5), 1);
        due("6: the PARKED one is in force", x.count(4), 5);
        due("6: its pair with the BLOCK", x.pairs(12), 2);
        due("6: its pair is gone", x.pairs(13), 1);
    }

    private static void finishOfAChangedBlock() {
        Edge edge = busy("6: finish of a changed block");
        DialDesk x = edge.taken("ahead of its SPLIT", y -> y.finish(0, 19), 1);
        due("6: its end", x.entry(0, 7), 19);
        due("6: a NUMBER the day ahead", x.numberOf(0, 18), 12345);
        due("6: none then", x.numberOf(0, 19), NONE);
        due("6: nor on the SPLIT's day", x.numberOf(0, 20), NONE);
        due("6: the new ones still come", x.entry(6, 6), 20);
        edge.refused("on its SPLIT's day", y -> y.finish(0, 20), RANGE);
        edge.refused("behind its SPLIT's day", y -> y.finish(0, 21), RANGE);
        DialDesk lengthened = edge.taken("lengthened already", y -> y.lengthen(8, 2, 15, 3), 10);
        due("6: finish of a lengthened one", lengthened.finish(8, 14), 1);
        due("6: its LINE the day ahead", lengthened.numberOf(2, 13), 1302123);
        due("6: its LINE has none", lengthened.numberOf(2, 14), NONE);
        due("6: nor later", lengthened.numberOf(2, 15), NONE);
    }

    // ---- promise 7

    private static void splitNoSuchBlock() {
        Edge edge = busy("7: split's block");
        edge.taken("8", x -> x.split(8, 2, 18, 3, 12, 0), 11);
        edge.taken("to come", x -> x.split(6, 8, 18, 3, 21, 0), 10);
        edge.refused("-1", x -> x.split(-1, 2, 18, 3, 12, 0), RANGE);
        edge.refused("10", x -> x.split(10, 2, 18, 3, 12, 0), RANGE);
        edge.refused("MIN", x -> x.split(MIN, 2, 18, 3, 12, 0), RANGE);
        edge.refused("MAX", x -> x.split(MAX, 2, 18, 3, 12, 0), RANGE);
        edge.refused("short", x -> x.split(1, 2, 18, 3, 12, 0), RANGE);
        edge.refused("foreign", x -> x.split(3, 2, 18, 3, 12, 0), RANGE);
        edge.refused("parked", x -> x.split(9, 2, 18, 3, 12, 0), RANGE);
    }

    private static void splitSet() {
        Edge edge = busy("7: split's set");
        DialDesk one = edge.taken("one of three", x -> x.split(8, 2, 18, 3, 12, 0), 11);
        due("7: the rest", one.entry(10, 3), 12);
        due("7: what is split off", one.entry(11, 3), 2);
        DialDesk two = edge.taken("two of three", x -> x.split(8, 10, 18, 3, 12, 0), 11);
        due("7: the rest is one", two.entry(10, 3), 4);
        DialDesk all = edge.taken("all", x -> x.split(8, 14, 18, 3, 12, 0), 10);
        due("7: no rest", all.count(0), 11);
        due("7: the whole set", all.entry(10, 3), 14);
        edge.refused("none", x -> x.split(8, 0, 18, 3, 12, 0), RANGE);
        edge.refused("another", x -> x.split(8, 1, 18, 3, 12, 0), RANGE);
        edge.refused("one and another", x -> x.split(8, 3, 18, 3, 12, 0), RANGE);
        edge.refused("all and another", x -> x.split(8, 15, 18, 3, 12, 0), RANGE);
        edge.refused("all and bit 10", x -> x.split(8, 14 + 1024, 18, 3, 12, 0), RANGE);
        edge.refused("-1", x -> x.split(8, -1, 18, 3, 12, 0), RANGE);
        edge.refused("MIN", x -> x.split(8, MIN, 18, 3, 12, 0), RANGE);
        edge.refused("one and the sign", x -> x.split(8, MIN + 2, 18, 3, 12, 0), RANGE);
        edge.refused("MAX", x -> x.split(8, MAX, 18, 3, 12, 0), RANGE);
    }

    private static void splitPrefix() {
        Edge edge = busy("7: split's prefix");
        int[] taken = {10, 19, 100, 199, 1000000, 1999999, 10000000, 19999999};
        for (int prefix : taken) {
            DialDesk x = edge.taken("taken " + prefix, y -> y.split(8, 2, prefix, 3, 12, 0), 11);
            due("7: prefix " + prefix, x.entry(11, 2), prefix);
            due("7: length of " + prefix, x.entry(11, 4), String.valueOf(prefix).length() + 2);
        }
        int[] refused = {MIN, -10, -1, 0, 1, 9, 20, 99, 20000000, 100000000, 199999999, 1999999999, MAX};
        for (int prefix : refused) {
            edge.refused("refused " + prefix, x -> x.split(8, 2, prefix, 3, 12, 0), RANGE);
        }
    }

    private static void splitArea() {
        Edge edge = busy("7: split's area");
        due("7: area 0", edge.taken("0", x -> x.split(8, 2, 18, 0, 12, 0), 11).entry(11, 1), 0);
        DialDesk last = edge.taken("15", x -> x.split(8, 2, 18, 15, 12, 0), 11);
        due("7: area 15", last.entry(11, 1), 15);
        due("7: the rest keeps its own", last.entry(10, 1), 1);
        edge.refused("-1", x -> x.split(8, 2, 18, -1, 12, 0), RANGE);
        edge.refused("16", x -> x.split(8, 2, 18, 16, 12, 0), RANGE);
        edge.refused("MIN", x -> x.split(8, 2, 18, MIN, 12, 0), RANGE);
        edge.refused("MAX", x -> x.split(8, 2, 18, MAX, 12, 0), RANGE);
    }

    private static void splitDay() {
        Edge edge = busy("7: split's day");
        due("7: today", edge.taken("10", x -> x.split(8, 2, 18, 3, 10, 0), 11).entry(8, 7), 10);
        edge.refused("9", x -> x.split(8, 2, 18, 3, 9, 0), RANGE);
        edge.refused("8", x -> x.split(8, 2, 18, 3, 8, 0), RANGE);
        edge.refused("-1", x -> x.split(8, 2, 18, 3, -1, 0), RANGE);
        edge.refused("MIN", x -> x.split(8, 2, 18, 3, MIN, 0), RANGE);
        due("7: the last day", edge.taken("20000", x -> x.split(8, 2, 18, 3, 20000, 0), 11).entry(11, 6), 20000);
        edge.refused("20001", x -> x.split(8, 2, 18, 3, 20001, 0), RANGE);
        edge.refused("MAX", x -> x.split(8, 2, 18, 3, MAX, 0), RANGE);
        edge.taken("behind its first", x -> x.split(6, 8, 18, 3, 21, 0), 10);
        edge.refused("its first", x -> x.split(6, 8, 18, 3, 20, 0), RANGE);
        edge.refused("ahead of its first", x -> x.split(6, 8, 18, 3, 19, 0), RANGE);
        Edge ending = new Edge(DUE, "7: split of what ends", 2, PlanEdgesTest::aBlockTill40);
        ending.taken("39", x -> x.split(0, 1, 18, 3, 39, 0), 2);
        ending.refused("40", x -> x.split(0, 1, 18, 3, 40, 0), RANGE);
        ending.refused("41", x -> x.split(0, 1, 18, 3, 41, 0), RANGE);
    }

    private static DialDesk aBlockTill40() {
        DialDesk x = new DialDesk();
        x.block(2, 12, 3, 4, 0);
        x.finish(0, 40);
        return x;
    }

    private static void splitOfAChangedBlock() {
        Edge edge = busy("7: split of a changed block");
        edge.refused("split to come", x -> x.split(0, 2, 18, 3, 12, 0), RANGE);
        edge.refused("lengthened already", x -> x.split(4, 2, 18, 3, 10, 0), RANGE);
        DialDesk x = edge.taken("lengthening to come", y -> y.lengthen(8, 2, 30, 0), 10);
        due("7: split ahead of it", x.split(8, 2, 18, 3, 20, 0), RANGE);
        DialDesk finished = edge.taken("finished ahead of its split", y -> y.finish(0, 15), 1);
        due("7: split of that", finished.split(0, 2, 18, 3, 12, 0), RANGE);
    }

    private static void splitDays() {
        Edge edge = busy("7: split's days");
        due("7: no PARKED one", edge.taken("0", x -> x.split(8, 2, 18, 3, 12, 0), 11).count(0), 12);
        DialDesk one = edge.taken("1", x -> x.split(8, 2, 18, 3, 12, 1), 11);
        due("7: a PARKED one", one.entry(12, 0), 3);
        due("7: for one day", one.entry(12, 7), 13);
        due("7: leads on it", one.leads(1302123, 12), 2);
        due("7: not behind it", one.leads(1302123, 13), NONE);
        due("7: for 1000", edge.taken("1000", x -> x.split(8, 2, 18, 3, 12, 1000), 11).entry(12, 7), 1012);
        edge.refused("-1", x -> x.split(8, 2, 18, 3, 12, -1), RANGE);
        edge.refused("1001", x -> x.split(8, 2, 18, 3, 12, 1001), RANGE);
        edge.refused("MIN", x -> x.split(8, 2, 18, 3, 12, MIN), RANGE);
        edge.refused("MAX", x -> x.split(8, 2, 18, 3, 12, MAX), RANGE);
    }

    private static void splitLength() {
        Edge edge = new Edge(DUE, "7: split's new length", 2, PlanEdgesTest::blocksOfSixAndElevenBehind);
        due("7: length 12", edge.taken("6 and 6", x -> x.split(0, 1, 1888888, 3, 5, 0), 3).entry(3, 4), 12);
        edge.refused("7 and 6", x -> x.split(0, 1, 18888888, 3, 5, 0), RANGE);
        due("7: length 12", edge.taken("1 and 11", x -> x.split(1, 1, 18, 3, 5, 0), 3).entry(3, 4), 12);
        edge.refused("2 and 11", x -> x.split(1, 1, 188, 3, 5, 0), RANGE);
    }

    private static DialDesk blocksOfSixAndElevenBehind() {
        DialDesk x = new DialDesk();
        x.block(2, 1222222, 3, 12, 0);
        x.block(2, 13, 3, 12, 0);
        return x;
    }

    private static void splitFull() {
        blocks("7: 117 entries", 117).taken("rest and PARKED", x -> x.split(3, 1, 18, 3, 5, 5), 118);
        Edge two = blocks("7: 118 entries", 118);
        two.refused("rest and PARKED", x -> x.split(3, 1, 18, 3, 5, 5), FULL);
        two.refused("rest and PARKED for a day", x -> x.split(3, 1, 18, 3, 5, 1), FULL);
        two.taken("rest alone", x -> x.split(3, 1, 18, 3, 5, 0), 119);
        two.taken("PARKED alone", x -> x.split(3, 3, 18, 3, 5, 5), 118);
        Edge one = blocks("7: 119 entries", 119);
        one.refused("rest alone", x -> x.split(3, 1, 18, 3, 5, 0), FULL);
        one.refused("PARKED alone", x -> x.split(3, 3, 18, 3, 5, 5), FULL);
        one.refused("PARKED alone for a day", x -> x.split(3, 3, 18, 3, 5, 1), FULL);
        one.taken("neither", x -> x.split(3, 3, 18, 3, 5, 0), 119);
        Edge none = blocks("7: 120 entries", 120);
        none.refused("neither", x -> x.split(3, 3, 18, 3, 5, 0), FULL);
        none.refused("full and wrong", x -> x.split(3, 0, 18, 3, 5, 0), RANGE);
    }

    private static void splitEnds() {
        Edge ending = new Edge(DUE, "7: split of what ends", 2, PlanEdgesTest::aBlockTill40);
        int[][] ofDays = {{19, 39}, {20, 40}, {21, 40}, {1000, 40}};
        for (int[] row : ofDays) {
            DialDesk x = ending.taken(row[0] + " days", y -> y.split(0, 1, 18, 3, 20, row[0]), 2);
            due("7: the old one", x.entry(0, 7), 20);
            due("7: the rest", x.entry(1, 7), 40);
            due("7: the new one", x.entry(2, 7), 40);
            due("7: the PARKED one of " + row[0], x.entry(3, 7), row[1]);
        }
        DialDesk x = blocks("7: split of what has no end", 1).taken("1000 days", y -> y.split(0, 1, 18, 3, 20, 1000), 2);
        due("7: the rest has none", x.entry(1, 7), NONE);
        due("7: the new one has none", x.entry(2, 7), NONE);
        due("7: the PARKED one has", x.entry(3, 7), 1020);
    }

    // ---- promise 8

    private static void lengthenNoSuchBlock() {
        Edge edge = busy("8: lengthen's block");
        edge.taken("8", x -> x.lengthen(8, 2, 12, 0), 10);
        edge.taken("to come", x -> x.lengthen(6, 2, 21, 0), 10);
        edge.refused("-1", x -> x.lengthen(-1, 2, 12, 0), RANGE);
        edge.refused("10", x -> x.lengthen(10, 2, 12, 0), RANGE);
        edge.refused("MIN", x -> x.lengthen(MIN, 2, 12, 0), RANGE);
        edge.refused("MAX", x -> x.lengthen(MAX, 2, 12, 0), RANGE);
        edge.refused("short", x -> x.lengthen(1, 2, 12, 0), RANGE);
        edge.refused("foreign", x -> x.lengthen(3, 2, 12, 0), RANGE);
        edge.refused("parked", x -> x.lengthen(9, 2, 12, 0), RANGE);
    }

    private static void lengthenFigure() {
        Edge edge = busy("8: lengthen's figure");
        due("8: figure 0", edge.taken("0", x -> x.lengthen(8, 0, 12, 0), 10).entry(10, 2), 13020);
        due("8: figure 9", edge.taken("9", x -> x.lengthen(8, 9, 12, 0), 10).entry(10, 2), 13029);
        edge.refused("-1", x -> x.lengthen(8, -1, 12, 0), RANGE);
        edge.refused("10", x -> x.lengthen(8, 10, 12, 0), RANGE);
        edge.refused("MIN", x -> x.lengthen(8, MIN, 12, 0), RANGE);
        edge.refused("MAX", x -> x.lengthen(8, MAX, 12, 0), RANGE);
    }

    private static void lengthenDay() {
        Edge edge = busy("8: lengthen's day");
        due("8: today", edge.taken("10", x -> x.lengthen(8, 2, 10, 0), 10).entry(8, 7), 10);
        edge.refused("9", x -> x.lengthen(8, 2, 9, 0), RANGE);
        edge.refused("-1", x -> x.lengthen(8, 2, -1, 0), RANGE);
        edge.refused("MIN", x -> x.lengthen(8, 2, MIN, 0), RANGE);
        due("8: the last day", edge.taken("20000", x -> x.lengthen(8, 2, 20000, 0), 10).entry(10, 6), 20000);
        edge.refused("20001", x -> x.lengthen(8, 2, 20001, 0), RANGE);
        edge.refused("MAX", x -> x.lengthen(8, 2, MAX, 0), RANGE);
        edge.taken("behind its first", x -> x.lengthen(6, 2, 21, 0), 10);
        edge.refused("its first", x -> x.lengthen(6, 2, 20, 0), RANGE);
        edge.refused("ahead of its first", x -> x.lengthen(6, 2, 19, 0), RANGE);
        Edge ending = new Edge(DUE, "8: lengthen of what ends", 2, PlanEdgesTest::aBlockTill40);
        ending.taken("39", x -> x.lengthen(0, 2, 39, 0), 1);
        ending.refused("40", x -> x.lengthen(0, 2, 40, 0), RANGE);
        ending.refused("41", x -> x.lengthen(0, 2, 41, 0), RANGE);
    }

    private static void lengthenOfAChangedBlock() {
        Edge edge = busy("8: lengthen of a changed block");
        edge.refused("split to come", x -> x.lengthen(0, 2, 12, 0), RANGE);
        edge.refused("lengthened already", x -> x.lengthen(4, 2, 10, 0), RANGE);
        DialDesk x = edge.taken("lengthening to come", y -> y.lengthen(8, 2, 30, 0), 10);
        due("8: lengthen ahead of it", x.lengthen(8, 3, 20, 0), RANGE);
        DialDesk finished = edge.taken("finished ahead of its split", y -> y.finish(0, 15), 1);
        due("8: lengthen of that", finished.lengthen(0, 2, 12, 0), RANGE);
    }

    private static void lengthenDays() {
        Edge edge = busy("8: lengthen's days");
        due("8: no PARKED one", edge.taken("0", x -> x.lengthen(8, 2, 12, 0), 10).count(0), 11);
        DialDesk one = edge.taken("1", x -> x.lengthen(8, 2, 12, 1), 10);
        due("8: a PARKED one", one.entry(11, 0), 3);
        due("8: for one day", one.entry(11, 7), 13);
        due("8: leads on it", one.leads(1302123, 12), 2);
        due("8: not behind it", one.leads(1302123, 13), NONE);
        due("8: for 1000", edge.taken("1000", x -> x.lengthen(8, 2, 12, 1000), 10).entry(11, 7), 1012);
        edge.refused("-1", x -> x.lengthen(8, 2, 12, -1), RANGE);
        edge.refused("1001", x -> x.lengthen(8, 2, 12, 1001), RANGE);
        edge.refused("MIN", x -> x.lengthen(8, 2, 12, MIN), RANGE);
        edge.refused("MAX", x -> x.lengthen(8, 2, 12, MAX), RANGE);
    }

    private static void lengthenPrefix() {
        Edge edge = new Edge(DUE, "8: lengthen's new prefix", 2, PlanEdgesTest::blocksOfSixAndSevenAhead);
        due("8: seven figures", edge.taken("6", x -> x.lengthen(0, 9, 5, 0), 2).entry(2, 2), 12222229);
        edge.refused("7", x -> x.lengthen(1, 9, 5, 0), RANGE);
    }

    private static DialDesk blocksOfSixAndSevenAhead() {
        DialDesk x = new DialDesk();
        x.block(2, 1222222, 3, 8, 0);
        x.block(2, 13333333, 3, 8, 0);
        return x;
    }

    private static void lengthenLength() {
        Edge edge = new Edge(DUE, "8: lengthen's new length", 2, PlanEdgesTest::blocksOfElevenAndTwelve);
        due("8: length 12", edge.taken("11", x -> x.lengthen(0, 9, 5, 0), 2).entry(2, 4), 12);
        edge.refused("12", x -> x.lengthen(1, 9, 5, 0), RANGE);
    }

    private static DialDesk blocksOfElevenAndTwelve() {
        DialDesk x = new DialDesk();
        x.block(2, 12, 3, 11, 0);
        x.block(2, 13, 3, 12, 0);
        return x;
    }

    private static void lengthenFull() {
        blocks("8: 118 entries", 118).taken("PARKED", x -> x.lengthen(3, 2, 5, 5), 118);
        Edge one = blocks("8: 119 entries", 119);
        one.refused("PARKED", x -> x.lengthen(3, 2, 5, 5), FULL);
        one.refused("PARKED for a day", x -> x.lengthen(3, 2, 5, 1), FULL);
        one.taken("none PARKED", x -> x.lengthen(3, 2, 5, 0), 119);
        Edge none = blocks("8: 120 entries", 120);
        none.refused("none PARKED", x -> x.lengthen(3, 2, 5, 0), FULL);
        none.refused("full and wrong", x -> x.lengthen(3, 10, 5, 0), RANGE);
    }

    private static void lengthenEnds() {
        Edge ending = new Edge(DUE, "8: lengthen of what ends", 2, PlanEdgesTest::aBlockTill40);
        int[][] ofDays = {{19, 39}, {20, 40}, {21, 40}, {1000, 40}};
        for (int[] row : ofDays) {
            DialDesk x = ending.taken(row[0] + " days", y -> y.lengthen(0, 2, 20, row[0]), 1);
            due("8: the old one", x.entry(0, 7), 20);
            due("8: the new one", x.entry(1, 7), 40);
            due("8: the PARKED one of " + row[0], x.entry(2, 7), row[1]);
        }
        DialDesk x = blocks("8: lengthen of what has no end", 1).taken("1000 days", y -> y.lengthen(0, 2, 20, 1000), 1);
        due("8: the new one has none", x.entry(1, 7), NONE);
        due("8: the PARKED one has", x.entry(2, 7), 1020);
    }

    // ---- promise 9

    private static void entryNoneSuch() {
        Edge edge = busy("9: entry");
        edge.taken("the last", x -> x.entry(9, 0), 3);
        edge.refused("-1", x -> x.entry(-1, 0), NONE);
        edge.refused("10", x -> x.entry(10, 0), NONE);
        edge.refused("MIN", x -> x.entry(MIN, 0), NONE);
        edge.refused("MAX", x -> x.entry(MAX, 0), NONE);
        edge.refused("what -1", x -> x.entry(0, -1), NONE);
        edge.refused("what 9", x -> x.entry(0, 9), NONE);
        edge.refused("what MIN", x -> x.entry(0, MIN), NONE);
        edge.refused("what MAX", x -> x.entry(0, MAX), NONE);
        Edge full = blocks("9: entry of 120", 120);
        full.taken("119", x -> x.entry(119, 2), 1119);
        full.refused("120", x -> x.entry(120, 2), NONE);
    }

    private static void entryOfEachKind() {
        int[][] due = {
            {0, 0, 12, 1023, 4, 4, 0, 20, -1},
            {1, 6, 111, 0, 2, 2, 0, -1, -1},
            {1, 7, 1112, 0, 3, 3, 0, -1, -1},
            {2, -1, 100, 0, 4, 6, 0, 50, -1},
            {0, 1, 130, 14, 5, 5, 3, 8, -1},
            {0, 0, 12, 1023 - 8, 4, 4, 20, -1, 0},
            {0, 1, 140, 8, 5, 5, 20, -1, 0},
            {3, 6, 12, 8, 4, 4, 20, 50, 0},
            {0, 1, 1302, 14, 6, 6, 8, -1, 4},
            {3, 8, 130, 14, 5, 5, 8, 18, 4},
        };
        DialDesk x = States.busy();
        for (int e = 0; e < due.length; e++) {
            for (int what = 0; what < due[e].length; what++) {
                due("9: entry(" + e + ", " + what + ")", x.entry(e, what), due[e][what]);
            }
        }
    }

    // ---- promise 10

    private static void pairsRange() {
        Edge edge = busy("10: pairs");
        edge.taken("0", x -> x.pairs(0), 1);
        edge.taken("20000", x -> x.pairs(20000), 1);
        edge.refused("-1", x -> x.pairs(-1), RANGE);
        edge.refused("20001", x -> x.pairs(20001), RANGE);
        edge.refused("MIN", x -> x.pairs(MIN), RANGE);
        edge.refused("MAX", x -> x.pairs(MAX), RANGE);
    }

    private static void pairsEmptyAndFull() {
        due("10: no entries", new DialDesk().pairs(0), 0);
        due("10: one entry", States.blocks(1).pairs(0), 0);
        due("10: entries apart", States.blocks(120).pairs(0), 0);
        due("10: each with each", alike().pairs(0), 7140);
        due("10: each with each on the last day", alike().pairs(20000), 7140);
    }

    private static DialDesk alike() {
        DialDesk x = new DialDesk();
        for (int e = 0; e < 120; e++) {
            x.service(112, e % 100, 0);
        }
        return x;
    }

    // ---- promise 11

    private static void pairNone() {
        Edge edge = busy("11: pair");
        edge.taken("the lesser", x -> x.pair(10, 0, 0), 1);
        edge.taken("the other", x -> x.pair(10, 0, 1), 2);
        edge.taken("the last one's lesser", x -> x.pair(10, 1, 0), 8);
        edge.taken("the last one's other", x -> x.pair(10, 1, 1), 9);
        edge.refused("pair -1", x -> x.pair(10, -1, 0), NONE);
        edge.refused("pair 2", x -> x.pair(10, 2, 0), NONE);
        edge.refused("pair 2, other", x -> x.pair(10, 2, 1), NONE);
        edge.refused("pair MIN", x -> x.pair(10, MIN, 0), NONE);
        edge.refused("pair MAX", x -> x.pair(10, MAX, 1), NONE);
        edge.refused("side -1", x -> x.pair(10, 0, -1), NONE);
        edge.refused("side 2", x -> x.pair(10, 0, 2), NONE);
        edge.refused("side MIN", x -> x.pair(10, 0, MIN), NONE);
        edge.refused("side MAX", x -> x.pair(10, 0, MAX), NONE);
        edge.refused("day -1", x -> x.pair(-1, 0, 0), NONE);
        edge.refused("day 20001", x -> x.pair(20001, 0, 0), NONE);
        edge.refused("day MIN", x -> x.pair(MIN, 0, 0), NONE);
        edge.refused("day MAX", x -> x.pair(MAX, 0, 0), NONE);
        due("11: no entries", new DialDesk().pair(0, 0, 0), NONE);
        due("11: the last of all", alike().pair(20000, 7139, 0), 118);
        due("11: the last of all, other", alike().pair(0, 7139, 1), 119);
        due("11: behind the last of all", alike().pair(0, 7140, 0), NONE);
    }

    private static void pairAtTheEdgesOfDays() {
        DialDesk x = States.busy();
        due("10: the day ahead of the first", x.pairs(7), 1);
        due("10: the first day", x.pairs(8), 2);
        due("10: the day ahead of the end", x.pairs(17), 2);
        due("10: the end", x.pairs(18), 1);
        due("11: the day ahead of the end", x.pair(17, 1, 1), 9);
        due("11: the end", x.pair(18, 1, 1), NONE);
    }
}
