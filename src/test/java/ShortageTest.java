/** Promises 22 to 28: demand, room, shortage, options, relief and counts. */
public final class ShortageTest {
    private static final Due DUE = new Due("ShortageTest");

    public static void main(String[] args) {
        demands();
        rooms();
        weeksOfShortage();
        shortageByTheClock();
        shortageUpToTheLastWeek();
        optionsThatCannotBe();
        reliefs();
        reliefByDays();
        reliefOfStretches();
        reliefWithoutPairs();
        reliefWithRoom();
        reliefsThatCannotBe();
        reliefUpToTheLastWeek();
        reliefOfTheLastWeek();
        takes();
        counts();
        DUE.end();
    }

    private static void due(String call, long got, long due) {
        DUE.is(call, got, due);
    }

    private static void demands() {
        DialDesk x = new DialDesk();
        due("first", x.demand(15, 1000000000, 1000000), 0);
        due("second", x.demand(15, 7, 0), 1000000000);
        due("third", x.demand(15, 0, 0), 7);
        due("area -1", x.demand(-1, 0, 0), DialDesk.RANGE);
        due("area 16", x.demand(16, 0, 0), DialDesk.RANGE);
        due("first -1", x.demand(0, -1, 0), DialDesk.RANGE);
        due("first too much", x.demand(0, 1000000001, 0), DialDesk.RANGE);
        due("more -1", x.demand(0, 0, -1), DialDesk.RANGE);
        due("more too much", x.demand(0, 0, 1000001), DialDesk.RANGE);
        due("untouched", x.demand(0, 0, 0), 0);
    }

    private static void rooms() {
        DialDesk x = new DialDesk();
        x.block(3, 12, 5, 4, 5);
        x.block(3, 13, 1023, 12, 7);
        x.block(4, 14, 1, 2, 0);
        x.service(1112, 3, 0);
        x.foreign(100, 4, 6, 0);
        due("not yet", x.room(3, 4), 0);
        due("one", x.room(3, 5), 200);
        due("two", x.room(3, 7), 100000000200L);
        due("one number", x.room(4, 0), 1);
        due("none", x.room(5, 0), 0);
        x.split(0, 1, 15, 4, 9, 100);
        due("split: rest", x.room(3, 9), 100000000100L);
        due("split: new area, parked ones do not count", x.room(4, 9), 101);
        x.finish(1, 10);
        due("ended", x.room(3, 10), 100);
        due("area -1", x.room(-1, 0), DialDesk.RANGE);
        due("area 16", x.room(16, 0), DialDesk.RANGE);
        due("day -1", x.room(0, -1), DialDesk.RANGE);
        due("day 20001", x.room(0, 20001), DialDesk.RANGE);
        due("day 20000", x.room(3, 20000), 100);
    }

    private static void weeksOfShortage() {
        DialDesk x = new DialDesk();
        due("none asked for", x.shortage(0), DialDesk.NONE);
        x.demand(0, 1, 0);
        due("at once", x.shortage(0), 0);
        x.block(0, 12, 1, 3, 1);
        due("the first day decides", x.shortage(0), 0);
        x.block(0, 13, 1, 3, 0);
        due("none", x.shortage(0), DialDesk.NONE);
        x.demand(0, 0, 1);
        due("twenty are enough for twenty", x.shortage(0), 21);
        x.finish(1, 35);
        due("ten from week 5 on", x.shortage(0), 11);
        x.finish(0, 36);
        due("none from week 6 on", x.shortage(0), 6);
        x.block(0, 14, 1, 3, 42);
        due("back in week 6", x.shortage(0), 11);
        due("area -1", x.shortage(-1), DialDesk.RANGE);
        due("area 16", x.shortage(16), DialDesk.RANGE);
    }

    private static void shortageByTheClock() {
        DialDesk x = new DialDesk();
        x.demand(0, 5, 0);
        x.block(0, 12, 1, 3, 9);
        due("from week 0", x.shortage(0), 0);
        x.now(7);
        due("week 1 began ahead of it", x.shortage(0), 1);
        x.now(13);
        due("still week 1", x.shortage(0), 1);
        x.now(14);
        due("week 2 has it", x.shortage(0), DialDesk.NONE);
        x.finish(0, 14);
        due("ended today", x.shortage(0), 2);
    }

    private static void shortageUpToTheLastWeek() {
        DialDesk x = new DialDesk();
        x.block(0, 12, 1023, 5, 0);
        x.demand(0, 8001, 1);
        due("week 2000", x.shortage(0), 2000);
        x.demand(0, 8000, 1);
        due("behind the last", x.shortage(0), DialDesk.NONE);
        x.finish(0, 14000);
        due("ends on its first day", x.shortage(0), 2000);
        DialDesk y = new DialDesk();
        y.demand(0, 1, 0);
        y.now(14006);
        due("the clock in the last", y.shortage(0), 2000);
        y.now(14007);
        due("the clock behind", y.shortage(0), DialDesk.NONE);
        y.now(20000);
        due("the last day", y.shortage(0), DialDesk.NONE);
        due("no relief then", y.relief(0, 1), DialDesk.NONE);
        DialDesk z = new DialDesk();
        z.block(0, 12, 1023, 12, 0);
        z.demand(0, 1000000000, 1000000);
        due("enough", z.shortage(0), DialDesk.NONE);
        z.block(1, 13, 4, 11, 0);
        z.demand(1, 1000000000, 1000000);
        due("just enough", z.shortage(1), 1);
    }

    private static void optionsThatCannotBe() {
        DialDesk x = new DialDesk();
        x.now(3);
        due("area", x.mightCome(16, 12, 1, 3, 5, 1), DialDesk.RANGE);
        due("prefix", x.mightCome(0, 22, 1, 3, 5, 1), DialDesk.RANGE);
        due("set", x.mightCome(0, 12, 0, 3, 5, 1), DialDesk.RANGE);
        due("length", x.mightCome(0, 12, 1, 1, 5, 1), DialDesk.RANGE);
        due("length 13", x.mightCome(0, 12, 1, 13, 5, 1), DialDesk.RANGE);
        due("ahead of the clock", x.mightCome(0, 12, 1, 3, 2, 1), DialDesk.RANGE);
        due("day 20001", x.mightCome(0, 12, 1, 3, 20001, 1), DialDesk.RANGE);
        due("cost -1", x.mightCome(0, 12, 1, 3, 5, -1), DialDesk.RANGE);
        due("cost too much", x.mightCome(0, 12, 1, 3, 5, 1000001), DialDesk.RANGE);
        due("none came", x.count(2), 0);
        for (int o = 0; o < 8; o++) {
            due("option " + o, x.mightCome(0, 12, 1, 3, 3, o == 0 ? 0 : 1000000), o);
        }
        due("full", x.mightCome(0, 12, 1, 3, 3, 1), DialDesk.FULL);
        due("full but wrong", x.mightCome(0, 12, 1, 3, 3, -1), DialDesk.RANGE);
        due("options", x.count(2), 8);
        due("no entries", x.count(0), 0);
    }

    private static void reliefs() {
        DialDesk x = new DialDesk();
        x.demand(0, 5, 5);
        due("no options", x.relief(0, 1), DialDesk.NONE);
        x.mightCome(0, 13, 1, 3, 0, 10);
        x.mightCome(0, 14, 1, 3, 0, 10);
        x.mightCome(0, 15, 1, 3, 0, 9);
        x.mightCome(0, 16, 7, 3, 0, 30);
        x.mightCome(1, 17, 7, 3, 0, 0);
        due("cheapest", x.relief(0, 1), 4);
        due("one is enough for two weeks", x.relief(0, 2), 4);
        due("two: the least number of the cheapest", x.relief(0, 3), 5);
        due("three alone or three together", x.relief(0, 5), 7);
        due("four", x.relief(0, 7), 12);
        due("more than there are", x.relief(0, 13), DialDesk.NONE);
        due("all", x.relief(0, 12), 15);
        x.mightCome(0, 18, 7, 3, 0, 29);
        due("the same cost", x.relief(0, 6), 7);
        x.mightCome(0, 19, 7, 3, 0, 28);
        due("less cost", x.relief(0, 6), 64);
    }

    private static void reliefByDays() {
        DialDesk x = new DialDesk();
        x.block(0, 12, 1, 3, 0);
        x.demand(0, 0, 2);
        due("shortage", x.shortage(0), 6);
        x.mightCome(0, 13, 1, 3, 42, 5);
        x.mightCome(0, 14, 1023, 4, 43, 1);
        x.mightCome(0, 15, 1, 3, 41, 6);
        due("on the week's first day", x.relief(0, 1), 1);
        due("with a later one", x.relief(0, 6), 3);
        x.now(42);
        due("on the clock's day", x.relief(0, 1), 1);
        x.now(43);
        due("that of week 6 is gone", x.relief(0, 1), DialDesk.NONE);
        x.now(49);
        due("its week goes by", x.relief(0, 1), DialDesk.NONE);
        due("shortage in the clock's week", x.shortage(0), 7);
    }

    private static void reliefOfStretches() {
        DialDesk x = new DialDesk();
        x.demand(0, 10, 10);
        x.block(0, 12, 1023, 3, 7);
        due("week 0", x.shortage(0), 0);
        x.mightCome(0, 13, 1, 3, 0, 3);
        due("ten for week 0, then a hundred and ten", x.relief(0, 11), 1);
        due("not for week 11", x.relief(0, 12), DialDesk.NONE);
        DialDesk y = new DialDesk();
        y.demand(0, 10, 10);
        y.mightCome(0, 13, 3, 3, 14, 3);
        y.mightCome(0, 14, 3, 3, 0, 3);
        due("the later one is no help alone", y.relief(0, 1), 2);
        due("but behind the other", y.relief(0, 4), 3);
        due("no longer", y.relief(0, 5), DialDesk.NONE);
        y.demand(1, 5, 0);
        y.mightCome(1, 15, 1, 3, 0, 1);
        due("another area's lack is its own", y.relief(1, 2000), 4);
        y.demand(0, 0, 0);
        due("none is asked for", y.relief(0, 1), DialDesk.NONE);
        due("the other one's still", y.relief(1, 1), 4);
    }

    private static void reliefWithoutPairs() {
        DialDesk x = new DialDesk();
        x.demand(0, 1, 0);
        x.block(1, 12, 1, 3, 0);
        x.service(135, 1, 3);
        x.foreign(14, 5, 7, 0);
        x.finish(2, 2);
        x.block(1, 15, 1, 3, 5);
        x.mightCome(0, 120, 1, 4, 0, 1);
        due("a pair with an entry", x.relief(0, 1), DialDesk.NONE);
        x.mightCome(0, 13, 32, 3, 0, 7);
        due("none with one to come", x.relief(0, 1), 2);
        x.mightCome(0, 14, 32, 3, 0, 6);
        due("with one that has not ended", x.relief(0, 1), 2);
        x.mightCome(0, 15, 1, 3, 0, 2);
        due("none with a block to come", x.relief(0, 1), 8);
        DialDesk y = new DialDesk();
        y.demand(0, 15, 0);
        y.mightCome(0, 12, 1, 3, 0, 1);
        y.mightCome(0, 120, 1, 4, 0, 1);
        due("a pair of options", y.relief(0, 1), DialDesk.NONE);
        y.mightCome(0, 12, 2, 3, 0, 50);
        due("without pairs", y.relief(0, 1), 5);
        DialDesk z = new DialDesk();
        z.demand(0, 5, 5);
        z.mightCome(0, 12, 1, 3, 0, 1);
        z.mightCome(0, 120, 1, 4, 14, 1);
        due("the later one makes the pair", z.relief(0, 3), DialDesk.NONE);
        due("the first alone", z.relief(0, 2), 1);
    }

    private static void reliefWithRoom() {
        DialDesk x = new DialDesk();
        for (int e = 0; e < 118; e++) {
            x.block(1, 1000 + e, 3, 8, 0);
        }
        x.demand(0, 25, 0);
        x.mightCome(0, 13, 1, 3, 0, 1);
        x.mightCome(0, 14, 1, 3, 0, 1);
        x.mightCome(0, 15, 1, 3, 0, 1);
        due("no room for three", x.relief(0, 1), DialDesk.NONE);
        x.demand(0, 15, 0);
        due("room for two", x.relief(0, 1), 3);
        x.block(1, 1900, 3, 8, 0);
        due("no room for two", x.relief(0, 1), DialDesk.NONE);
        x.demand(0, 5, 0);
        due("room for one", x.relief(0, 1), 1);
        due("take", x.take(0), 119);
        x.demand(0, 15, 0);
        due("no room", x.relief(0, 1), DialDesk.NONE);
        due("take: full", x.take(0), DialDesk.FULL);
        due("it stays", x.count(2), 2);
        due("take: none", x.take(2), DialDesk.RANGE);
    }

    private static void reliefsThatCannotBe() {
        DialDesk x = new DialDesk();
        x.demand(0, 5, 0);
        x.mightCome(0, 13, 1, 3, 0, 1);
        due("area -1", x.relief(-1, 1), DialDesk.RANGE);
        due("area 16", x.relief(16, 1), DialDesk.RANGE);
        due("w 0", x.relief(0, 0), DialDesk.RANGE);
        due("w 2001", x.relief(0, 2001), DialDesk.RANGE);
        due("w 2000", x.relief(0, 2000), 1);
        due("no shortage", x.relief(1, 1), DialDesk.NONE);
    }

    private static void reliefUpToTheLastWeek() {
        DialDesk x = new DialDesk();
        x.block(0, 12, 1, 4, 0);
        x.demand(0, 0, 1);
        due("shortage", x.shortage(0), 101);
        x.mightCome(0, 13, 1023, 4, 0, 5);
        x.mightCome(0, 14, 1023, 5, 0, 50);
        due("by 1000 weeks", x.relief(0, 1000), 1);
        due("by 1001", x.relief(0, 1001), 2);
        due("for good", x.relief(0, 2000), 2);
        x.mightCome(0, 150, 511, 5, 0, 4);
        due("to week 2000", x.relief(0, 1899), 5);
        due("behind week 2000 none is asked for", x.relief(0, 1900), 5);
    }

    private static void reliefOfTheLastWeek() {
        DialDesk x = new DialDesk();
        x.block(0, 12, 1, 4, 0);
        x.demand(0, 0, 1);
        x.mightCome(0, 13, 1023, 4, 0, 5);
        x.mightCome(0, 140, 255, 5, 0, 5);
        x.mightCome(0, 141, 511, 4, 0, 5);
        x.mightCome(0, 142, 511, 3, 0, 5);
        due("1999 are too few in week 2000 alone", x.relief(0, 1899), 15);
        due("so the shortage is not put off by more", x.relief(0, 1900), DialDesk.NONE);
        DialDesk y = new DialDesk();
        y.block(0, 12, 1, 3, 0);
        y.finish(0, 14000);
        y.demand(0, 1, 0);
        due("shortage", y.shortage(0), 2000);
        y.mightCome(0, 13, 1, 3, 14001, 5);
        due("behind its first day", y.relief(0, 1), DialDesk.NONE);
        y.mightCome(0, 14, 1, 3, 14000, 5);
        due("on its first day", y.relief(0, 1), 2);
        DialDesk z = new DialDesk();
        z.block(0, 12, 1, 3, 0);
        z.finish(0, 14005);
        z.now(35);
        z.demand(0, 15, 0);
        z.mightCome(0, 13, 1, 3, 35, 5);
        due("shortage by the clock", z.shortage(0), 5);
        due("week 2001 may be short", z.relief(0, 2000), 1);
        z.finish(0, 14000);
        due("week 2000 may not", z.relief(0, 2000), DialDesk.NONE);
        due("by 1995 weeks, to week 2000", z.relief(0, 1995), 1);
        due("by 1996, behind it", z.relief(0, 1996), DialDesk.NONE);
    }

    private static void takes() {
        DialDesk x = new DialDesk();
        x.mightCome(2, 13, 5, 4, 6, 10);
        x.mightCome(3, 14, 1, 3, 2, 20);
        x.mightCome(4, 15, 1, 3, 6, 30);
        due("option -1", x.take(-1), DialDesk.RANGE);
        due("option 3", x.take(3), DialDesk.RANGE);
        due("take", x.take(0), 0);
        int[] due = {0, 2, 13, 5, 4, 4, 6, -1, -1, -1};
        for (int what = 0; what < due.length; what++) {
            due("entry " + what, x.entry(0, what), due[what]);
        }
        due("fewer options", x.count(2), 2);
        due("none behind", x.take(2), DialDesk.RANGE);
        x.now(3);
        due("ahead of the clock", x.take(0), DialDesk.RANGE);
        due("stays", x.count(2), 2);
        due("the other has a number less", x.take(1), 1);
        due("its area", x.entry(1, 1), 4);
        due("one left", x.count(2), 1);
        due("a new one", x.mightCome(4, 15, 1, 3, 6, 30), 1);
        due("a pair may come", x.take(1), 2);
        due("pairs", x.pairs(6), 1);
        due("can be split", x.split(0, 4, 17, 0, 7, 0), 4);
    }

    private static void counts() {
        DialDesk x = new DialDesk();
        x.block(0, 12, 1023, 4, 0);
        x.service(112, 7, 3);
        x.foreign(100, 4, 6, 0);
        x.finish(2, 3);
        x.line(0, 1345);
        x.line(0, 1346);
        x.mightCome(0, 13, 1, 3, 9, 1);
        int[] due = {3, 2, 1, 0, 2, 2, -1};
        for (int what = 0; what < due.length; what++) {
            due("count " + what, x.count(what), due[what]);
        }
        due("count -1", x.count(-1), DialDesk.NONE);
        x.now(3);
        x.drop(0);
        x.split(0, 8, 15, 0, 5, 5);
        int[] later = {6, 2, 1, 3, 2, 1};
        for (int what = 0; what < later.length; what++) {
            due("later " + what, x.count(what), later[what]);
        }
        x.now(5);
        due("in force", x.count(4), 4);
        x.finish(4, 6);
        x.now(6);
        due("in force then", x.count(4), 3);
        due("no line has a number", x.count(5), 0);
        due("lines", x.count(1), 2);
    }
}
