/** The boundary cases of promises 22 to 28: what is taken last, what is refused first, and that it leaves no trace. */
public final class ShortageEdgesTest {
    private static final Due DUE = new Due("ShortageEdgesTest");
    private static final int NONE = DialDesk.NONE;
    private static final int RANGE = DialDesk.RANGE;
    private static final int FULL = DialDesk.FULL;
    private static final int MIN = Integer.MIN_VALUE;
    private static final int MAX = Integer.MAX_VALUE;

    public static void main(String[] args) {
        demandArea();
        demandFirst();
        demandMore();
        roomArea();
        roomDay();
        roomEmptyAndFull();
        shortageArea();
        shortageAsManyAsThereAre();
        shortageFromTheClocksWeek();
        shortageUpTo2000();
        shortageWithoutWrapping();
        mightComeArea();
        mightComePrefix();
        mightComeSet();
        mightComeLength();
        mightComeDay();
        mightComeCost();
        mightComeFull();
        reliefArea();
        reliefWeeks();
        reliefAtLeastSoManyWeeks();
        reliefNoShortage();
        reliefNone();
        reliefNotAheadOfTheClock();
        reliefRoom();
        reliefPairsWithEntries();
        reliefPairsWithOptions();
        reliefPairsOfOptionsApart();
        reliefWithAsManyTurnsAsThereCanBe();
        reliefWeekByWeek();
        reliefLeastCostThenLeastNumber();
        reliefOfAllOptions();
        takeNoSuchOption();
        takeDay();
        takeFull();
        takeNumbersOfThoseBehind();
        countNoneForOthers();
        countOfEach();
        DUE.end();
    }

    private static void due(String call, long got, long due) {
        DUE.is(call, got, due);
    }

    private static Edge busy(String promise) {
        return new Edge(DUE, promise, States.BUSY_CALLS, States::busy);
    }

    // ---- promise 22

    private static void demandArea() {
        Edge edge = busy("22: demand's area");
        edge.taken("0", x -> x.demand(0, 1, 1), 500);
        edge.taken("15", x -> x.demand(15, 1, 1), 7);
        edge.refused("-1", x -> x.demand(-1, 1, 1), RANGE);
        edge.refused("16", x -> x.demand(16, 1, 1), RANGE);
        edge.refused("MIN", x -> x.demand(MIN, 1, 1), RANGE);
        edge.refused("MAX", x -> x.demand(MAX, 1, 1), RANGE);
    }

    private static void demandFirst() {
        Edge edge = busy("22: demand in week 0");
        due("22: 0", edge.taken("0", x -> x.demand(0, 0, 1), 500).demand(0, 1, 1), 0);
        due("22: most", edge.taken("1000000000", x -> x.demand(0, 1000000000, 1), 500).demand(0, 1, 1), 1000000000);
        edge.refused("-1", x -> x.demand(0, -1, 1), RANGE);
        edge.refused("1000000001", x -> x.demand(0, 1000000001, 1), RANGE);
        edge.refused("MIN", x -> x.demand(0, MIN, 1), RANGE);
        edge.refused("MAX", x -> x.demand(0, MAX, 1), RANGE);
    }

    private static void demandMore() {
        Edge edge = busy("22: demand more each week");
        due("22: 0 more", edge.taken("0", x -> x.demand(0, 900, 0), 500).shortage(0), NONE);
        due("22: most", edge.taken("1000000", x -> x.demand(0, 0, 1000000), 500).shortage(0), 1);
        edge.refused("-1", x -> x.demand(0, 1, -1), RANGE);
        edge.refused("1000001", x -> x.demand(0, 1, 1000001), RANGE);
        edge.refused("MIN", x -> x.demand(0, 1, MIN), RANGE);
        edge.refused("MAX", x -> x.demand(0, 1, MAX), RANGE);
    }

    // ---- promise 23

    private static void roomArea() {
        Edge edge = busy("23: room's area");
        edge.taken("0", x -> x.room(0, 10), 1000);
        edge.taken("15", x -> x.room(15, 10), 0);
        edge.refused("-1", x -> x.room(-1, 10), RANGE);
        edge.refused("16", x -> x.room(16, 10), RANGE);
        edge.refused("MIN", x -> x.room(MIN, 10), RANGE);
        edge.refused("MAX", x -> x.room(MAX, 10), RANGE);
    }

    private static void roomDay() {
        Edge edge = busy("23: room's day");
        int[][] due = {{0, 0, 1000}, {0, 19, 1000}, {0, 20, 900}, {0, 20000, 900}, {1, 2, 0}, {1, 3, 300}, {1, 7, 300},
            {1, 8, 300}, {1, 19, 300}, {1, 20, 400}, {1, 20000, 400}};
        for (int[] row : due) {
            edge.taken("area " + row[0] + " on " + row[1], x -> x.room(row[0], row[1]), row[2]);
        }
        edge.refused("-1", x -> x.room(0, -1), RANGE);
        edge.refused("20001", x -> x.room(0, 20001), RANGE);
        edge.refused("MIN", x -> x.room(0, MIN), RANGE);
        edge.refused("MAX", x -> x.room(0, MAX), RANGE);
        DialDesk ended = edge.taken("finish", x -> x.finish(8, 12), 1);
        due("23: the day ahead of the end", ended.room(1, 11), 300);
        due("23: the end", ended.room(1, 12), 0);
    }

    private static void roomEmptyAndFull() {
        due("23: no entries", new DialDesk().room(0, 0), 0);
        DialDesk x = new DialDesk();
        for (int e = 0; e < 120; e++) {
            x.block(15, 10 + e % 10, 1023, 12, 0);
        }
        due("23: 120 of the largest", x.room(15, 0), 12000000000000L);
    }

    // ---- promise 24

    private static void shortageArea() {
        Edge edge = busy("24: shortage's area");
        edge.taken("0", x -> x.shortage(0), 41);
        edge.taken("15", x -> x.shortage(15), 1);
        edge.refused("-1", x -> x.shortage(-1), RANGE);
        edge.refused("16", x -> x.shortage(16), RANGE);
        edge.refused("MIN", x -> x.shortage(MIN), RANGE);
        edge.refused("MAX", x -> x.shortage(MAX), RANGE);
    }

    /** One block of ten numbers of area 0 from a day on. */
    private static DialDesk tenFrom(int day) {
        DialDesk x = new DialDesk();
        x.block(0, 12, 1, 3, day);
        return x;
    }

    private static void shortageAsManyAsThereAre() {
        Edge edge = new Edge(DUE, "24: ten numbers", 1, () -> tenFrom(0));
        due("24: ten asked for", edge.taken("ten", x -> x.demand(0, 10, 0), 0).shortage(0), NONE);
        due("24: eleven asked for", edge.taken("eleven", x -> x.demand(0, 11, 0), 0).shortage(0), 0);
        due("24: ten in week 10", edge.taken("one a week", x -> x.demand(0, 0, 1), 0).shortage(0), 11);
        due("24: none asked for", edge.taken("none", x -> x.demand(0, 0, 0), 0).shortage(0), NONE);
        DialDesk none = new DialDesk();
        none.demand(3, 1, 0);
        due("24: no numbers", none.shortage(3), 0);
        none.demand(3, 0, 1);
        due("24: no numbers, from week 1 on", none.shortage(3), 1);
        int[][] firstDays = {{0, NONE}, {1, 0}};
        for (int[] row : firstDays) {
            DialDesk x = tenFrom(row[0]);
            x.demand(0, 1, 0);
            due("24: there from day " + row[0] + " on", x.shortage(0), row[1]);
        }
        int[][] ends = {{13, 2}, {14, 2}, {15, 3}, {20, 3}, {21, 3}, {22, 4}};
        for (int[] row : ends) {
            DialDesk x = tenFrom(0);
            x.demand(0, 1, 0);
            x.finish(0, row[0]);
            due("24: gone on day " + row[0], x.shortage(0), row[1]);
        }
    }

    private static void shortageFromTheClocksWeek() {
        int[][] days = {{0, 0}, {6, 0}, {7, 1}, {13, 1}, {14, NONE}, {15, NONE}};
        for (int[] row : days) {
            DialDesk x = tenFrom(14);
            x.demand(0, 1, 0);
            x.now(row[0]);
            due("24: on day " + row[0], x.shortage(0), row[1]);
        }
    }

    private static void shortageUpTo2000() {
        DialDesk x = new DialDesk();
        x.block(0, 12, 3, 5, 0);
        x.demand(0, 1, 1);
        due("24: 2000 are there in week 1999", x.shortage(0), 2000);
        x.demand(0, 0, 1);
        due("24: 2000 are there in week 2000", x.shortage(0), NONE);
        int[][] ends = {{13993, 1999}, {13994, 2000}, {14000, 2000}, {14001, NONE}};
        for (int[] row : ends) {
            DialDesk y = tenFrom(0);
            y.demand(0, 1, 0);
            y.finish(0, row[0]);
            due("24: gone on day " + row[0], y.shortage(0), row[1]);
        }
        int[][] clocks = {{13999, 1999}, {14000, 2000}, {14006, 2000}, {14007, NONE}, {20000, NONE}};
        for (int[] row : clocks) {
            DialDesk y = new DialDesk();
            y.demand(0, 1, 0);
            y.now(row[0]);
            due("24: the clock on day " + row[0], y.shortage(0), row[1]);
        }
    }

    private static void shortageWithoutWrapping() {
        int[][] sets = {{1, 1}, {3, 1001}, {7, NONE}};
        for (int[] row : sets) {
            DialDesk x = new DialDesk();
            x.block(0, 12, row[0], 11, 0);
            x.demand(0, 1000000000, 1000000);
            due("24: set " + row[0] + " of 1000000000 each", x.shortage(0), row[1]);
        }
        DialDesk x = new DialDesk();
        x.block(0, 12, 3, 11, 0);
        x.block(0, 13, 511, 10, 0);
        x.block(0, 14, 511, 9, 0);
        x.demand(0, 1000000000, 1000000);
        due("24: 2990000000 are there", x.shortage(0), 1991);
    }

    // ---- promise 25

    private static void mightComeArea() {
        Edge edge = busy("25: mightCome's area");
        edge.taken("0", x -> x.mightCome(0, 18, 1, 3, 10, 5), 3);
        edge.taken("15", x -> x.mightCome(15, 18, 1, 3, 10, 5), 3);
        edge.refused("-1", x -> x.mightCome(-1, 18, 1, 3, 10, 5), RANGE);
        edge.refused("16", x -> x.mightCome(16, 18, 1, 3, 10, 5), RANGE);
        edge.refused("MIN", x -> x.mightCome(MIN, 18, 1, 3, 10, 5), RANGE);
        edge.refused("MAX", x -> x.mightCome(MAX, 18, 1, 3, 10, 5), RANGE);
    }

    private static void mightComePrefix() {
        Edge edge = busy("25: mightCome's prefix");
        int[] taken = {10, 19, 100, 199, 10000000, 19999999};
        for (int prefix : taken) {
            DialDesk x = edge.taken("taken " + prefix, y -> y.mightCome(0, prefix, 1, 8, 10, 5), 3);
            due("25: it comes", x.take(3), 10);
            due("25: with prefix " + prefix, x.entry(10, 2), prefix);
        }
        int[] refused = {MIN, -1, 0, 1, 9, 20, 99, 20000000, 100000000, 1999999999, MAX};
        for (int prefix : refused) {
            edge.refused("refused " + prefix, x -> x.mightCome(0, prefix, 1, 12, 10, 5), RANGE);
        }
    }

    private static void mightComeSet() {
        Edge edge = busy("25: mightCome's set");
        edge.taken("1", x -> x.mightCome(0, 18, 1, 3, 10, 5), 3);
        edge.taken("1023", x -> x.mightCome(0, 18, 1023, 3, 10, 5), 3);
        edge.refused("0", x -> x.mightCome(0, 18, 0, 3, 10, 5), RANGE);
        edge.refused("-1", x -> x.mightCome(0, 18, -1, 3, 10, 5), RANGE);
        edge.refused("1024", x -> x.mightCome(0, 18, 1024, 3, 10, 5), RANGE);
        edge.refused("MIN", x -> x.mightCome(0, 18, MIN, 3, 10, 5), RANGE);
        edge.refused("MAX", x -> x.mightCome(0, 18, MAX, 3, 10, 5), RANGE);
    }

    private static void mightComeLength() {
        Edge edge = busy("25: mightCome's length");
        edge.taken("2 of 1", x -> x.mightCome(0, 18, 1, 2, 10, 5), 3);
        edge.taken("12 of 1", x -> x.mightCome(0, 18, 1, 12, 10, 5), 3);
        edge.taken("8 of 7", x -> x.mightCome(0, 18888888, 1, 8, 10, 5), 3);
        edge.refused("1 of 1", x -> x.mightCome(0, 18, 1, 1, 10, 5), RANGE);
        edge.refused("7 of 7", x -> x.mightCome(0, 18888888, 1, 7, 10, 5), RANGE);
        edge.refused("13", x -> x.mightCome(0, 18, 1, 13, 10, 5), RANGE);
        edge.refused("MIN", x -> x.mightCome(0, 18, 1, MIN, 10, 5), RANGE);
        edge.refused("MAX", x -> x.mightCome(0, 18, 1, MAX, 10, 5), RANGE);
    }

    private static void mightComeDay() {
        Edge edge = busy("25: mightCome's day");
        edge.taken("10", x -> x.mightCome(0, 18, 1, 3, 10, 5), 3);
        edge.taken("20000", x -> x.mightCome(0, 18, 1, 3, 20000, 5), 3);
        edge.refused("9", x -> x.mightCome(0, 18, 1, 3, 9, 5), RANGE);
        edge.refused("-1", x -> x.mightCome(0, 18, 1, 3, -1, 5), RANGE);
        edge.refused("20001", x -> x.mightCome(0, 18, 1, 3, 20001, 5), RANGE);
        edge.refused("MIN", x -> x.mightCome(0, 18, 1, 3, MIN, 5), RANGE);
        edge.refused("MAX", x -> x.mightCome(0, 18, 1, 3, MAX, 5), RANGE);
    }

    private static void mightComeCost() {
        Edge edge = busy("25: mightCome's cost");
        edge.taken("0", x -> x.mightCome(0, 18, 1, 3, 10, 0), 3);
        edge.taken("1000000", x -> x.mightCome(0, 18, 1, 3, 10, 1000000), 3);
        edge.refused("-1", x -> x.mightCome(0, 18, 1, 3, 10, -1), RANGE);
        edge.refused("1000001", x -> x.mightCome(0, 18, 1, 3, 10, 1000001), RANGE);
        edge.refused("MIN", x -> x.mightCome(0, 18, 1, 3, 10, MIN), RANGE);
        edge.refused("MAX", x -> x.mightCome(0, 18, 1, 3, 10, MAX), RANGE);
    }

    /** So many options of area 0, 20 to 27, of ten numbers each, from day 0 on. */
    private static DialDesk options(int count) {
        DialDesk x = new DialDesk();
        x.demand(0, 5, 0);
        for (int o = 0; o < count; o++) {
            x.mightCome(0, 120 + o, 1, 4, 0, 1000000);
        }
        return x;
    }

    private static void mightComeFull() {
        Edge seven = new Edge(DUE, "25: seven options", 8, () -> options(7));
        due("25: eight", seven.taken("one more", x -> x.mightCome(0, 18, 1, 3, 0, 5), 7).count(2), 8);
        Edge eight = new Edge(DUE, "25: eight options", 9, () -> options(8));
        eight.refused("full", x -> x.mightCome(0, 18, 1, 3, 0, 5), FULL);
        eight.refused("full and wrong", x -> x.mightCome(0, 18, 1, 3, 0, -1), RANGE);
        DialDesk x = eight.taken("one is taken", y -> y.take(7), 0);
        due("25: room again", x.mightCome(0, 18, 1, 3, 0, 5), 7);
        Edge entries = new Edge(DUE, "25: 120 entries", 120, () -> States.blocks(120));
        entries.taken("no matter", y -> y.mightCome(0, 18, 1, 3, 0, 5), 0);
    }

    // ---- promise 26

    private static void reliefArea() {
        Edge edge = busy("26: relief's area");
        edge.taken("0", x -> x.relief(0, 1), 1);
        edge.taken("1", x -> x.relief(1, 1), 4);
        edge.taken("15", x -> x.relief(15, 1), NONE);
        edge.refused("-1", x -> x.relief(-1, 1), RANGE);
        edge.refused("16", x -> x.relief(16, 1), RANGE);
        edge.refused("MIN", x -> x.relief(MIN, 1), RANGE);
        edge.refused("MAX", x -> x.relief(MAX, 1), RANGE);
    }

    private static void reliefWeeks() {
        Edge edge = new Edge(DUE, "26: relief's weeks", 2, () -> options(1));
        edge.taken("1", x -> x.relief(0, 1), 1);
        edge.taken("2000", x -> x.relief(0, 2000), 1);
        edge.refused("0", x -> x.relief(0, 0), RANGE);
        edge.refused("-1", x -> x.relief(0, -1), RANGE);
        edge.refused("2001", x -> x.relief(0, 2001), RANGE);
        edge.refused("MIN", x -> x.relief(0, MIN), RANGE);
        edge.refused("MAX", x -> x.relief(0, MAX), RANGE);
        edge.refused("0 without a shortage", x -> x.relief(1, 0), RANGE);
        edge.refused("2001 without a shortage", x -> x.relief(1, 2001), RANGE);
    }

    private static void reliefAtLeastSoManyWeeks() {
        Edge edge = busy("26: relief by weeks");
        due("26: without it", States.busy().shortage(1), 23);
        edge.taken("the last by the third alone", x -> x.relief(1, 20), 4);
        edge.taken("the second alone", x -> x.relief(1, 21), 2);
        edge.taken("the last by the second alone", x -> x.relief(1, 60), 2);
        edge.taken("both", x -> x.relief(1, 61), 6);
        edge.taken("the last by both", x -> x.relief(1, 80), 6);
        edge.refused("one too many", x -> x.relief(1, 81), NONE);
        DialDesk with = States.busy();
        with.take(2);
        due("26: with the third", with.shortage(1), 43);
        int[][] numbers = {{1999, 1}, {2000, 1}};
        for (int[] row : numbers) {
            DialDesk x = new DialDesk();
            x.demand(0, 1, 1);
            x.mightCome(0, 12, 3, 5, 0, 5);
            due("26: a SHORTAGE in week 2000, by " + row[0], x.relief(0, row[0]), row[1]);
            x.demand(0, 2, 1);
            due("26: a SHORTAGE in week 1999, by " + row[0], x.relief(0, row[0]), row[0] == 1999 ? 1 : NONE);
            x.demand(0, 3, 1);
            due("26: a SHORTAGE in week 1998, by " + row[0], x.relief(0, row[0]), NONE);
        }
        DialDesk forGood = new DialDesk();
        forGood.demand(0, 0, 1);
        forGood.mightCome(0, 12, 3, 5, 0, 5);
        due("26: no SHORTAGE with it, by 2000", forGood.relief(0, 2000), 1);
    }

    private static void reliefNoShortage() {
        Edge edge = new Edge(DUE, "26: there is no shortage", 2, () -> options(1));
        edge.refused("of another area", x -> x.relief(1, 1), NONE);
        DialDesk x = edge.taken("it comes", y -> y.take(0), 0);
        due("26: none any more", x.relief(0, 1), NONE);
        DialDesk late = options(1);
        late.mightCome(0, 18, 1, 3, 20000, 5);
        late.now(14007);
        due("26: behind week 2000", late.relief(0, 1), NONE);
    }

    private static void reliefNone() {
        Edge none = new Edge(DUE, "26: no options", 1, () -> options(0));
        none.refused("none", x -> x.relief(0, 1), NONE);
        DialDesk x = options(0);
        x.mightCome(1, 12, 1, 4, 0, 0);
        due("26: another area's alone", x.relief(0, 1), NONE);
        DialDesk few = new DialDesk();
        few.demand(0, 11, 0);
        few.mightCome(0, 12, 1, 3, 0, 5);
        due("26: too few numbers", few.relief(0, 1), NONE);
        few.demand(0, 10, 0);
        due("26: as many as asked for", few.relief(0, 1), 1);
        DialDesk late = options(0);
        late.mightCome(0, 12, 1, 3, 1, 5);
        due("26: a day behind the week's first", late.relief(0, 1), NONE);
        late.mightCome(0, 13, 1, 3, 0, 5);
        due("26: on the week's first", late.relief(0, 1), 2);
    }

    private static void reliefNotAheadOfTheClock() {
        int[][] clocks = {{6, NONE}, {7, NONE}, {8, NONE}};
        for (int[] row : clocks) {
            DialDesk x = options(1);
            x.now(row[0]);
            due("26: day 0 is ahead of the clock at " + row[0], x.relief(0, 1), row[1]);
        }
        DialDesk x = new DialDesk();
        x.demand(0, 1, 0);
        x.mightCome(0, 12, 1, 3, 7, 5);
        due("26: the shortage is sooner", x.relief(0, 1), NONE);
        x.now(7);
        due("26: on the clock's day", x.relief(0, 1), 1);
        x.now(8);
        due("26: ahead of the clock's day", x.relief(0, 1), NONE);
        due("26: it is an option still", x.count(2), 1);
    }

    /** So many entries of area 1, and an area 0 that needs a number of options of ten numbers each. */
    private static DialDesk crowded(int entries, int needed) {
        DialDesk x = new DialDesk();
        for (int e = 0; e < entries; e++) {
            x.service(10000 + e, 1, 0);
        }
        x.demand(0, 10 * needed, 0);
        for (int o = 0; o < 8; o++) {
            x.mightCome(0, 120 + o, 1, 4, 0, 1);
        }
        return x;
    }

    private static void reliefRoom() {
        due("26: room for eight", crowded(112, 8).relief(0, 1), 255);
        due("26: no room for eight", crowded(113, 8).relief(0, 1), NONE);
        due("26: room for seven", crowded(113, 7).relief(0, 1), 127);
        due("26: room for one", crowded(119, 1).relief(0, 1), 1);
        due("26: no room for two", crowded(119, 2).relief(0, 1), NONE);
        Edge full = new Edge(DUE, "26: 120 entries", 129, () -> crowded(120, 1));
        full.refused("no room", x -> x.relief(0, 1), NONE);
    }

    /** Area 0 lacks numbers from week 2 on; an entry 25 of some days, and one option 25x on day 14. */
    private static DialDesk besideAShort(int first, int end) {
        DialDesk x = new DialDesk();
        x.service(125, 1, first);
        x.finish(0, end);
        x.block(0, 18, 1, 3, 0);
        x.finish(1, 14);
        x.demand(0, 1, 0);
        x.mightCome(0, 12, 32, 3, 14, 5);
        return x;
    }

    private static void reliefPairsWithEntries() {
        due("26: ended on that day", besideAShort(0, 14).relief(0, 1), 1);
        due("26: ends the day behind", besideAShort(0, 15).relief(0, 1), NONE);
        due("26: begins that day", besideAShort(14, 15).relief(0, 1), NONE);
        due("26: begins the day behind", besideAShort(15, 16).relief(0, 1), 1);
        DialDesk x = besideAShort(0, 15);
        x.mightCome(0, 12, 16, 3, 14, 6);
        due("26: beside it", x.relief(0, 1), 2);
        DialDesk parked = new DialDesk();
        parked.block(0, 12, 1, 3, 0);
        parked.split(0, 1, 13, 1, 14, 7);
        parked.demand(0, 1, 0);
        parked.mightCome(0, 12, 1, 3, 14, 5);
        due("26: a pair with a PARKED one", parked.relief(0, 1), NONE);
    }

    private static void reliefPairsWithOptions() {
        int[][] days = {{0, 0}, {0, 7}, {7, 0}};
        for (int[] row : days) {
            DialDesk x = new DialDesk();
            x.block(0, 18, 3, 3, 0);
            x.finish(0, 7);
            x.demand(0, 15, 0);
            x.mightCome(0, 12, 1, 3, row[0], 5);
            x.mightCome(0, 120, 1, 4, row[1], 5);
            due("26: a pair of days " + row[0] + " and " + row[1], x.relief(0, 1), NONE);
            x.mightCome(0, 13, 1, 3, 7, 900000);
            due("26: with another one", x.relief(0, 1), 5);
        }
    }

    private static void reliefPairsOfOptionsApart() {
        DialDesk x = new DialDesk();
        x.demand(0, 15, 0);
        x.mightCome(0, 12, 1, 3, 0, 9);
        x.mightCome(1, 13, 1, 3, 0, 9);
        x.mightCome(0, 120, 1, 4, 0, 5);
        due("26: a pair of the first and the third", x.relief(0, 1), NONE);
        x.demand(0, 10, 0);
        due("26: the third alone makes none", x.relief(0, 1), 4);
    }

    /** Blocks of one number, each there for a week and then none for a week; two more entries have room. */
    private static void reliefWithAsManyTurnsAsThereCanBe() {
        DialDesk x = new DialDesk();
        for (int e = 0; e < 118; e++) {
            x.block(0, 1000 + e, 1, 4, 14 * e + 7);
            x.finish(e, 14 * e + 14);
        }
        x.demand(0, 2, 1);
        x.mightCome(0, 18, 3, 4, 0, 5);
        x.mightCome(0, 19, 15, 3, 0, 5);
        due("26: many turns, without", x.shortage(0), 0);
        due("26: many turns, 200 numbers, to week 199", x.relief(0, 200), 1);
        due("26: many turns, 240 numbers", x.relief(0, 201), 3);
        due("26: many turns, 240 numbers, to week 238", x.relief(0, 239), 3);
        due("26: many turns, a week too many", x.relief(0, 240), NONE);
        x.take(0);
        x.take(0);
        due("26: many turns, with both", x.shortage(0), 239);
    }

    private static void reliefWeekByWeek() {
        DialDesk x = new DialDesk();
        x.block(0, 12, 1, 3, 0);
        x.finish(0, 35);
        x.block(0, 13, 511, 2, 35);
        x.finish(1, 42);
        x.block(0, 14, 31, 2, 42);
        x.finish(2, 49);
        x.block(0, 15, 1, 3, 49);
        x.demand(0, 10, 0);
        due("26: one lacks in week 5", x.shortage(0), 5);
        x.mightCome(0, 160, 1, 4, 36, 1);
        due("26: too late for week 5", x.relief(0, 1), NONE);
        x.mightCome(0, 17, 1, 2, 35, 2);
        x.mightCome(0, 18, 15, 2, 35, 3);
        x.mightCome(0, 19, 31, 2, 35, 4);
        due("26: one for week 5", x.relief(0, 1), 2);
        due("26: and later ones for week 6", x.relief(0, 2), 3);
        due("26: and for good", x.relief(0, 2000), 3);
        x.now(37);
        due("26: those days are ahead of the clock", x.relief(0, 1), NONE);
    }

    private static void reliefLeastCostThenLeastNumber() {
        DialDesk x = new DialDesk();
        x.demand(0, 10, 0);
        x.mightCome(0, 12, 1, 3, 0, 1000000);
        x.mightCome(0, 13, 1, 3, 0, 999999);
        due("26: less cost", x.relief(0, 1), 2);
        x.mightCome(0, 14, 1, 3, 0, 999999);
        due("26: the same cost, the lesser number", x.relief(0, 1), 2);
        x.mightCome(0, 15, 1, 3, 0, 0);
        due("26: no cost", x.relief(0, 1), 8);
        x.mightCome(0, 16, 1, 3, 0, 0);
        due("26: no cost, the lesser number", x.relief(0, 1), 8);
        DialDesk y = new DialDesk();
        y.demand(0, 20, 0);
        y.mightCome(0, 12, 1, 3, 0, 3);
        y.mightCome(0, 13, 1, 3, 0, 4);
        y.mightCome(0, 14, 3, 3, 0, 7);
        due("26: two of the cost of one", y.relief(0, 1), 3);
    }

    private static void reliefOfAllOptions() {
        DialDesk x = options(8);
        x.demand(0, 80, 0);
        due("26: all eight", x.relief(0, 2000), 255);
        x.demand(0, 81, 0);
        due("26: not enough", x.relief(0, 1), NONE);
    }

    // ---- promise 27

    private static void takeNoSuchOption() {
        Edge edge = busy("27: take's option");
        edge.taken("0", x -> x.take(0), 10);
        due("27: two are left", edge.taken("2", x -> x.take(2), 10).count(2), 2);
        edge.refused("-1", x -> x.take(-1), RANGE);
        edge.refused("3", x -> x.take(3), RANGE);
        edge.refused("8", x -> x.take(8), RANGE);
        edge.refused("MIN", x -> x.take(MIN), RANGE);
        edge.refused("MAX", x -> x.take(MAX), RANGE);
        new Edge(DUE, "27: no options", 0, DialDesk::new).refused("0", x -> x.take(0), RANGE);
        Edge eight = new Edge(DUE, "27: eight options", 9, () -> options(8));
        eight.taken("7", x -> x.take(7), 0);
        eight.refused("8", x -> x.take(8), RANGE);
    }

    private static DialDesk busyOn(int day) {
        DialDesk x = States.busy();
        x.now(day);
        return x;
    }

    private static void takeDay() {
        Edge today = busy("27: take's day");
        due("27: its day", today.taken("today", x -> x.take(2), 10).entry(10, 6), 10);
        Edge tomorrow = new Edge(DUE, "27: take's day", States.BUSY_CALLS, () -> busyOn(11));
        tomorrow.refused("yesterday", x -> x.take(2), RANGE);
        tomorrow.taken("to come", x -> x.take(1), 10);
        Edge later = new Edge(DUE, "27: take's day", States.BUSY_CALLS, () -> busyOn(15));
        later.refused("some days ago", x -> x.take(1), RANGE);
        later.taken("on the clock's day", x -> x.take(0), 10);
        Edge last = new Edge(DUE, "27: take on the last day", 2, ShortageEdgesTest::anOptionOfTheLastDay);
        due("27: the last day", last.taken("0", x -> x.take(0), 0).room(0, 20000), 10);
    }

    private static DialDesk anOptionOfTheLastDay() {
        DialDesk x = new DialDesk();
        x.mightCome(0, 18, 1, 3, 20000, 5);
        x.now(20000);
        return x;
    }

    private static void takeFull() {
        due("27: the last one", new Edge(DUE, "27: 119 entries", 128, () -> crowded(119, 1)).taken("one", x -> x.take(7), 119)
            .count(0), 120);
        Edge full = new Edge(DUE, "27: 120 entries", 129, () -> crowded(120, 1));
        full.refused("it stays", x -> x.take(0), FULL);
        full.refused("the last stays", x -> x.take(7), FULL);
        full.refused("full and wrong", x -> x.take(8), RANGE);
        DialDesk late = crowded(120, 1);
        late.now(1);
        due("27: full and too late", late.take(0), RANGE);
    }

    private static void takeNumbersOfThoseBehind() {
        DialDesk x = options(8);
        due("27: the first", x.take(0), 0);
        due("27: what was 1 is 0", x.take(0), 1);
        due("27: what was 7 is 5", x.take(5), 2);
        due("27: what was 6 is 4", x.take(5), RANGE);
        due("27: what was 3 is 1", x.take(1), 3);
        int[] prefixes = {120, 121, 127, 123};
        for (int e = 0; e < prefixes.length; e++) {
            due("27: prefix of " + e, x.entry(e, 2), prefixes[e]);
        }
        due("27: four are left", x.count(2), 4);
        due("27: a new one comes behind", x.mightCome(0, 18, 1, 3, 0, 5), 4);
    }

    // ---- promise 28

    private static void countNoneForOthers() {
        Edge edge = busy("28: count");
        edge.taken("0", x -> x.count(0), 10);
        edge.taken("5", x -> x.count(5), 2);
        edge.refused("-1", x -> x.count(-1), NONE);
        edge.refused("6", x -> x.count(6), NONE);
        edge.refused("MIN", x -> x.count(MIN), NONE);
        edge.refused("MAX", x -> x.count(MAX), NONE);
    }

    private static void countOfEach() {
        int[][] due = {
            {10, 10, 3, 3, 10, 6, 2}, {17, 10, 3, 3, 17, 6, 2}, {18, 10, 3, 3, 18, 5, 2}, {19, 10, 3, 3, 19, 5, 2},
            {20, 10, 3, 3, 20, 7, 2}, {49, 10, 3, 3, 49, 7, 2}, {50, 10, 3, 3, 50, 5, 2}, {20000, 10, 3, 3, 20000, 5, 2},
        };
        for (int[] row : due) {
            DialDesk x = busyOn(row[0]);
            for (int what = 0; what <= 5; what++) {
                due("28: on day " + row[0] + " count " + what, x.count(what), row[what + 1]);
            }
        }
        DialDesk x = States.busy();
        x.finish(8, 12);
        x.now(11);
        due("28: the day ahead of its block's end", x.count(5), 2);
        x.now(12);
        due("28: its block's end", x.count(5), 1);
        due("28: full", States.blocks(120).count(4), 120);
    }
}
