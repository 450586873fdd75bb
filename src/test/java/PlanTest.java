/** Promises 1 to 11: a new object, the clock, the plan and its pairs. */
public final class PlanTest {
    private static final Due DUE = new Due("PlanTest");

    public static void main(String[] args) {
        aNewDesk();
        theClock();
        blocks();
        shortNumbers();
        foreignNumbers();
        finishes();
        splits();
        splitsOfTheWholeSet();
        splitsThatCannotBe();
        lengthenings();
        lengtheningsThatCannotBe();
        endsOfWhatCameByAChange();
        aFinishAheadOfAChange();
        noRoom();
        entriesThatAreNot();
        pairs();
        pairsOfDays();
        pairsInOrder();
        manyPairs();
        DUE.end();
    }

    private static void due(String call, long got, long due) {
        DUE.is(call, got, due);
    }

    private static void entry(DialDesk x, int e, int... due) {
        for (int what = 0; what < due.length; what++) {
            due("entry(" + e + ", " + what + ")", x.entry(e, what), due[what]);
        }
    }

    private static void aNewDesk() {
        DialDesk x = new DialDesk();
        for (int what = 0; what <= 5; what++) {
            due("new: count " + what, x.count(what), 0);
        }
        due("new: entry", x.entry(0, 0), DialDesk.NONE);
        due("new: pairs", x.pairs(0), 0);
        due("new: demand", x.demand(3, 0, 0), 0);
        due("new: told", x.told(0, 0), DialDesk.NONE);
        due("new: shortage", x.shortage(0), DialDesk.NONE);
    }

    private static void theClock() {
        DialDesk x = new DialDesk();
        due("now 0", x.now(0), 0);
        due("now 5", x.now(5), 5);
        due("now same", x.now(5), 5);
        due("now below", x.now(4), DialDesk.RANGE);
        due("now negative", x.now(-1), DialDesk.RANGE);
        due("clock stays", x.count(3), 5);
        due("now too far", x.now(20001), DialDesk.RANGE);
        due("now last", x.now(20000), 20000);
        due("now behind last", x.now(20001), DialDesk.RANGE);
        due("clock", x.count(3), 20000);
    }

    private static void blocks() {
        DialDesk x = new DialDesk();
        due("least", x.block(0, 10, 1, 2, 0), 0);
        due("most", x.block(15, 19999999, 1023, 12, 20000), 1);
        entry(x, 0, 0, 0, 10, 1, 2, 2, 0, -1, -1, -1);
        entry(x, 1, 0, 15, 19999999, 1023, 12, 12, 20000, -1, -1);
        due("area -1", x.block(-1, 10, 1, 2, 0), DialDesk.RANGE);
        due("area 16", x.block(16, 10, 1, 2, 0), DialDesk.RANGE);
        due("prefix without figures", x.block(0, 1, 1, 2, 0), DialDesk.RANGE);
        due("prefix 0", x.block(0, 0, 1, 2, 0), DialDesk.RANGE);
        due("prefix negative", x.block(0, -10, 1, 2, 0), DialDesk.RANGE);
        due("prefix without a 1 ahead", x.block(0, 20, 1, 3, 0), DialDesk.RANGE);
        due("prefix 99", x.block(0, 99, 1, 3, 0), DialDesk.RANGE);
        due("prefix of 8 figures", x.block(0, 100000000, 1, 12, 0), DialDesk.RANGE);
        due("prefix of 9 figures", x.block(0, 1999999999, 1, 12, 0), DialDesk.RANGE);
        due("set 0", x.block(0, 10, 0, 3, 0), DialDesk.RANGE);
        due("set 1024", x.block(0, 10, 1024, 3, 0), DialDesk.RANGE);
        due("set negative", x.block(0, 10, -1, 3, 0), DialDesk.RANGE);
        due("length of the prefix", x.block(0, 100, 1, 2, 0), DialDesk.RANGE);
        due("length 13", x.block(0, 100, 1, 13, 0), DialDesk.RANGE);
        due("day -1", x.block(0, 10, 1, 3, -1), DialDesk.RANGE);
        due("day 20001", x.block(0, 10, 1, 3, 20001), DialDesk.RANGE);
        x.now(9);
        due("ahead of the clock", x.block(0, 10, 1, 3, 8), DialDesk.RANGE);
        due("on the clock's day", x.block(0, 10, 1, 3, 9), 2);
        due("count", x.count(0), 3);
    }

    private static void shortNumbers() {
        DialDesk x = new DialDesk();
        due("two figures", x.service(100, 0, 0), 0);
        due("seven figures", x.service(19999999, 99, 3), 1);
        entry(x, 0, 1, 0, 100, 0, 2, 2, 0, -1, -1, -1);
        entry(x, 1, 1, 99, 19999999, 0, 7, 7, 3, -1, -1);
        due("one figure", x.service(19, 1, 0), DialDesk.RANGE);
        due("eight figures", x.service(100000000, 1, 0), DialDesk.RANGE);
        due("no 1 ahead", x.service(200, 1, 0), DialDesk.RANGE);
        due("service -1", x.service(112, -1, 0), DialDesk.RANGE);
        due("service 100", x.service(112, 100, 0), DialDesk.RANGE);
        due("day -1", x.service(112, 1, -1), DialDesk.RANGE);
        due("day 20001", x.service(112, 1, 20001), DialDesk.RANGE);
        x.now(4);
        due("ahead of the clock", x.service(112, 1, 3), DialDesk.RANGE);
        due("count", x.count(0), 2);
    }

    private static void foreignNumbers() {
        DialDesk x = new DialDesk();
        due("least", x.foreign(10, 2, 2, 0), 0);
        due("most", x.foreign(19999, 5, 15, 20000), 1);
        entry(x, 0, 2, -1, 10, 0, 2, 2, 0, -1, -1, -1);
        entry(x, 1, 2, -1, 19999, 0, 5, 15, 20000, -1, -1);
        due("no prefix", x.foreign(1, 2, 3, 0), DialDesk.RANGE);
        due("prefix of 5", x.foreign(100000, 7, 8, 0), DialDesk.RANGE);
        due("least as the prefix", x.foreign(100, 2, 3, 0), DialDesk.RANGE);
        due("most below least", x.foreign(100, 5, 4, 0), DialDesk.RANGE);
        due("most 16", x.foreign(100, 5, 16, 0), DialDesk.RANGE);
        due("day -1", x.foreign(100, 5, 6, -1), DialDesk.RANGE);
        due("day 20001", x.foreign(100, 5, 6, 20001), DialDesk.RANGE);
        x.now(4);
        due("ahead of the clock", x.foreign(100, 5, 6, 3), DialDesk.RANGE);
        due("on the clock's day", x.foreign(100, 5, 6, 4), 2);
    }

    private static void finishes() {
        DialDesk x = new DialDesk();
        x.block(0, 12, 1023, 4, 5);
        x.service(1112, 7, 5);
        x.foreign(100, 4, 6, 5);
        due("no entry", x.finish(3, 9), DialDesk.RANGE);
        due("entry -1", x.finish(-1, 9), DialDesk.RANGE);
        due("on its first day", x.finish(0, 5), DialDesk.RANGE);
        due("a day behind", x.finish(0, 6), 1);
        due("on its end", x.finish(0, 6), DialDesk.RANGE);
        due("day 20001", x.finish(1, 20001), DialDesk.RANGE);
        due("last day", x.finish(1, 20000), 1);
        due("sooner", x.finish(1, 9), 1);
        due("later again", x.finish(1, 10), DialDesk.RANGE);
        due("end", x.entry(1, 7), 9);
        x.now(8);
        due("ahead of the clock", x.finish(2, 7), DialDesk.RANGE);
        due("on the clock's day", x.finish(2, 8), 1);
        due("in force", x.count(4), 1);
        x.now(9);
        due("in force none", x.count(4), 0);
    }

    private static void splits() {
        DialDesk x = new DialDesk();
        x.block(2, 123, 14, 5, 0);
        due("split", x.split(0, 4, 14567, 3, 10, 20), 2);
        entry(x, 0, 0, 2, 123, 14, 5, 5, 0, 10, -1);
        entry(x, 1, 0, 2, 123, 10, 5, 5, 10, -1, 0);
        entry(x, 2, 0, 3, 14567, 4, 7, 7, 10, -1, 0);
        entry(x, 3, 3, 2, 123, 4, 5, 5, 10, 30, 0);
        due("entries", x.count(0), 4);
        due("a parked one cannot be split", x.split(3, 4, 199, 3, 20, 0), DialDesk.RANGE);
        due("nor lengthened", x.lengthen(3, 4, 20, 0), DialDesk.RANGE);
        due("nor finished", x.finish(3, 20), DialDesk.RANGE);
        due("nor the same again", x.split(0, 2, 199, 3, 5, 0), DialDesk.RANGE);
        due("nor lengthened then", x.lengthen(0, 2, 5, 0), DialDesk.RANGE);
        due("rest can", x.split(1, 2, 199, 3, 11, 0), 5);
        due("without parked", x.count(0), 6);
    }

    private static void splitsOfTheWholeSet() {
        DialDesk x = new DialDesk();
        x.block(2, 123, 14, 5, 0);
        due("whole set", x.split(0, 14, 19, 0, 1, 1), 1);
        entry(x, 1, 0, 0, 19, 14, 4, 4, 1, -1, 0);
        entry(x, 2, 3, 1, 123, 14, 5, 5, 1, 2, 0);
        due("no more", x.count(0), 3);
    }

    private static void splitsThatCannotBe() {
        DialDesk x = new DialDesk();
        x.block(2, 123, 14, 11, 3);
        x.service(1112, 7, 0);
        due("no block", x.split(2, 2, 19, 0, 5, 1), DialDesk.RANGE);
        due("block -1", x.split(-1, 2, 19, 0, 5, 1), DialDesk.RANGE);
        due("a short one", x.split(1, 2, 19, 0, 5, 1), DialDesk.RANGE);
        due("set 0", x.split(0, 0, 19, 0, 5, 1), DialDesk.RANGE);
        due("set of others", x.split(0, 1, 19, 0, 5, 1), DialDesk.RANGE);
        due("set with another", x.split(0, 15, 19, 0, 5, 1), DialDesk.RANGE);
        due("set negative", x.split(0, -1, 19, 0, 5, 1), DialDesk.RANGE);
        due("prefix", x.split(0, 2, 29, 0, 5, 1), DialDesk.RANGE);
        due("prefix none", x.split(0, 2, 1, 0, 5, 1), DialDesk.RANGE);
        due("area -1", x.split(0, 2, 19, -1, 5, 1), DialDesk.RANGE);
        due("area 16", x.split(0, 2, 19, 16, 5, 1), DialDesk.RANGE);
        due("its first day", x.split(0, 2, 19, 0, 3, 1), DialDesk.RANGE);
        due("day 20001", x.split(0, 2, 19, 0, 20001, 1), DialDesk.RANGE);
        due("days -1", x.split(0, 2, 19, 0, 5, -1), DialDesk.RANGE);
        due("days 1001", x.split(0, 2, 19, 0, 5, 1001), DialDesk.RANGE);
        due("length 13", x.split(0, 2, 19999, 0, 5, 1), DialDesk.RANGE);
        x.finish(0, 9);
        due("its end", x.split(0, 2, 19, 0, 9, 1), DialDesk.RANGE);
        x.now(5);
        due("ahead of the clock", x.split(0, 2, 19, 0, 4, 1), DialDesk.RANGE);
        due("nothing came", x.count(0), 2);
        due("length 12, on the clock's day", x.split(0, 2, 1999, 0, 5, 1000), 3);
    }

    private static void lengthenings() {
        DialDesk x = new DialDesk();
        x.block(2, 123, 14, 5, 0);
        due("lengthen", x.lengthen(0, 0, 10, 1000), 1);
        entry(x, 0, 0, 2, 123, 14, 5, 5, 0, 10, -1);
        entry(x, 1, 0, 2, 1230, 14, 6, 6, 10, -1, 0);
        entry(x, 2, 3, 1, 123, 14, 5, 5, 10, 1010, 0);
        due("again", x.lengthen(1, 9, 20, 0), 3);
        entry(x, 3, 0, 2, 12309, 14, 7, 7, 20, -1, 1);
        due("without parked", x.count(0), 4);
    }

    private static void lengtheningsThatCannotBe() {
        DialDesk x = new DialDesk();
        x.block(2, 12345678, 14, 9, 0);
        x.block(2, 1234567, 14, 12, 0);
        x.block(2, 1234567, 14, 11, 3);
        x.foreign(100, 4, 6, 0);
        due("prefix of 8", x.lengthen(0, 0, 5, 0), DialDesk.RANGE);
        due("length 13", x.lengthen(1, 0, 5, 0), DialDesk.RANGE);
        due("foreign", x.lengthen(3, 0, 5, 0), DialDesk.RANGE);
        due("none", x.lengthen(4, 0, 5, 0), DialDesk.RANGE);
        due("figure -1", x.lengthen(2, -1, 5, 0), DialDesk.RANGE);
        due("figure 10", x.lengthen(2, 10, 5, 0), DialDesk.RANGE);
        due("first day", x.lengthen(2, 0, 3, 0), DialDesk.RANGE);
        due("day 20001", x.lengthen(2, 0, 20001, 0), DialDesk.RANGE);
        due("days -1", x.lengthen(2, 0, 5, -1), DialDesk.RANGE);
        due("days 1001", x.lengthen(2, 0, 5, 1001), DialDesk.RANGE);
        x.now(6);
        due("ahead of the clock", x.lengthen(2, 0, 5, 0), DialDesk.RANGE);
        due("prefix of 7, length 12", x.lengthen(2, 9, 6, 0), 4);
        entry(x, 4, 0, 2, 12345679, 14, 12, 12, 6, -1, 2);
        due("changed already", x.lengthen(2, 9, 7, 0), DialDesk.RANGE);
    }

    private static void endsOfWhatCameByAChange() {
        DialDesk x = new DialDesk();
        x.block(0, 12, 3, 4, 0);
        x.finish(0, 40);
        due("split", x.split(0, 1, 15, 1, 20, 10), 2);
        due("rest ends", x.entry(1, 7), 40);
        due("moved ends", x.entry(2, 7), 40);
        due("parked ends ahead", x.entry(3, 7), 30);
        due("lengthen", x.lengthen(1, 5, 30, 1000), 4);
        due("new ends", x.entry(4, 7), 40);
        due("parked ends then", x.entry(5, 7), 40);
        x.block(0, 13, 3, 4, 0);
        x.split(6, 1, 16, 1, 20000, 1000);
        due("parked end behind the last day", x.entry(9, 7), 21000);
    }

    private static void aFinishAheadOfAChange() {
        DialDesk x = new DialDesk();
        x.block(0, 12, 3, 4, 0);
        x.line(0, 1023);
        x.split(0, 1, 15, 1, 20, 10);
        due("finish ahead", x.finish(0, 15), 1);
        due("ends", x.entry(0, 7), 15);
        due("new one comes yet", x.entry(2, 6), 20);
        due("has a number", x.numberOf(0, 14), 12023);
        due("has none", x.numberOf(0, 15), DialDesk.NONE);
        due("nor when the change comes", x.numberOf(0, 20), DialDesk.NONE);
        due("still changed", x.split(0, 2, 16, 1, 10, 10), DialDesk.RANGE);
        due("finish on its change's day", x.finish(2, 20), DialDesk.RANGE);
    }

    private static void noRoom() {
        DialDesk x = new DialDesk();
        for (int e = 0; e < 117; e++) {
            due("block " + e, x.block(0, 1000 + e, 3, 8, 0), e);
        }
        due("three", x.split(0, 1, 19, 0, 5, 5), 118);
        due("full block", x.block(0, 10, 1, 2, 0), DialDesk.FULL);
        due("full but wrong", x.block(0, 10, 0, 2, 0), DialDesk.RANGE);
        due("full service", x.service(112, 1, 0), DialDesk.FULL);
        due("full foreign", x.foreign(100, 3, 4, 0), DialDesk.FULL);
        due("full split", x.split(1, 3, 19, 0, 5, 0), DialDesk.FULL);
        due("full lengthen", x.lengthen(1, 3, 5, 0), DialDesk.FULL);
        due("full but wrong split", x.split(1, 0, 19, 0, 5, 0), DialDesk.RANGE);
        due("untouched", x.entry(1, 7), DialDesk.NONE);
        due("count", x.count(0), 120);

        DialDesk y = new DialDesk();
        for (int e = 0; e < 118; e++) {
            y.block(0, 1000 + e, 3, 8, 0);
        }
        due("no room for three", y.split(0, 1, 19, 0, 5, 5), DialDesk.FULL);
        due("no trace", y.entry(0, 7), DialDesk.NONE);
        due("nor entries", y.count(0), 118);
        due("room for two", y.split(0, 1, 19, 0, 5, 0), 119);
        due("no room for two", y.lengthen(1, 1, 5, 1), DialDesk.FULL);
        DialDesk z = new DialDesk();
        for (int e = 0; e < 119; e++) {
            z.block(0, 1000 + e, 3, 8, 0);
        }
        due("no room for parked", z.lengthen(1, 1, 5, 1), DialDesk.FULL);
        due("room without", z.lengthen(1, 1, 5, 0), 119);
    }

    private static void entriesThatAreNot() {
        DialDesk x = new DialDesk();
        x.service(1112, 7, 0);
        due("entry -1", x.entry(-1, 0), DialDesk.NONE);
        due("entry 1", x.entry(1, 0), DialDesk.NONE);
        due("what -1", x.entry(0, -1), DialDesk.NONE);
        due("what 9", x.entry(0, 9), DialDesk.NONE);
    }

    /** Two entries alone on a desk: whether they make a pair, either of them first. */
    private static void pairOf(String what, int[] one, int[] other, int due) {
        for (int turn = 0; turn < 2; turn++) {
            DialDesk x = new DialDesk();
            put(x, turn == 0 ? one : other);
            put(x, turn == 0 ? other : one);
            due(what + " (" + turn + ")", x.pairs(0), due);
            due(what + " lesser", x.pair(0, 0, 0), due == 1 ? 0 : -1);
            due(what + " other", x.pair(0, 0, 1), due == 1 ? 1 : -1);
        }
    }

    private static void put(DialDesk x, int[] of) {
        int e;
        if (of[0] == 0) {
            e = x.block(0, of[1], of[2], of[3], 0);
        } else if (of[0] == 1) {
            e = x.service(of[1], 0, 0);
        } else {
            e = x.foreign(of[1], of[2], of[3], 0);
        }
        due("put", e < 0 ? e : 0, 0);
    }

    private static int[] b(int prefix, int set, int length) {
        return new int[] {0, prefix, set, length};
    }

    private static int[] s(int number) {
        return new int[] {1, number};
    }

    private static int[] f(int prefix, int least, int most) {
        return new int[] {2, prefix, least, most};
    }

    private static void pairs() {
        pairOf("same short", s(112), s(112), 1);
        pairOf("short begins short", s(112), s(1123), 1);
        pairOf("other short", s(112), s(113), 0);
        pairOf("short in the middle", s(112), s(1212), 0);
        pairOf("short begins block", s(112), b(11, 4, 5), 1);
        pairOf("short beside the set", s(112), b(11, 8, 5), 0);
        pairOf("short is a number", s(1123), b(11, 4, 3), 1);
        pairOf("block begins short", s(11234), b(11, 4, 3), 1);
        pairOf("block beside short", s(11334), b(11, 4, 3), 0);
        pairOf("same blocks", b(11, 4, 3), b(11, 4, 3), 1);
        pairOf("sets apart", b(11, 4, 3), b(11, 8, 3), 0);
        pairOf("sets that share", b(11, 12, 3), b(11, 10, 3), 1);
        pairOf("prefix in the set", b(11, 4, 5), b(112, 1, 5), 1);
        pairOf("prefix beside the set", b(11, 4, 5), b(113, 1, 5), 0);
        pairOf("shorter block begins", b(11, 4, 3), b(112, 1, 9), 1);
        pairOf("two behind the prefix", b(11, 4, 3), b(11234567, 1, 9), 1);
        pairOf("longer with shorter prefix", b(11, 4, 9), b(11234567, 1, 8), 1);
        pairOf("seven figures, sets apart", b(11234567, 4, 9), b(11234567, 8, 12), 0);
        pairOf("seven figures, sets that share", b(11234567, 4, 9), b(11234567, 12, 12), 1);
        pairOf("seven figures, the last apart", s(11234567), s(11234568), 0);
        pairOf("seven figures, the first apart", s(11234567), s(12234567), 0);
        pairOf("seven figures and a set", s(11234567), b(1123456, 64, 8), 0);
        pairOf("seven figures in a set", s(11234567), b(1123456, 128, 8), 1);
        pairOf("foreign and block", f(11, 2, 3), b(11, 4, 5), 1);
        pairOf("foreign longer", f(11, 6, 8), b(11, 4, 5), 1);
        pairOf("foreign apart", f(12, 6, 8), b(11, 4, 5), 0);
        pairOf("foreign short at least", f(11, 2, 8), b(112345, 4, 8), 1);
        pairOf("foreign prefix longer than the block", f(11234, 5, 8), b(11, 4, 2), 1);
        pairOf("foreign beside the set", f(11334, 5, 8), b(11, 4, 2), 0);
        pairOf("foreign and short", f(112, 4, 15), s(112), 1);
        pairOf("short longer than foreign", f(112, 4, 5), s(1123456), 1);
        pairOf("foreign both", f(112, 4, 5), f(1123, 7, 9), 1);
        pairOf("foreign apart", f(112, 4, 5), f(1133, 7, 9), 0);
    }

    private static void pairsOfDays() {
        DialDesk x = new DialDesk();
        x.block(0, 11, 4, 3, 5);
        x.service(112, 0, 7);
        x.finish(0, 9);
        due("ahead of the second", x.pairs(6), 0);
        due("both", x.pairs(7), 1);
        due("till the end", x.pairs(8), 1);
        due("not on the end", x.pairs(9), 0);
        due("day -1", x.pairs(-1), DialDesk.RANGE);
        due("day 20001", x.pairs(20001), DialDesk.RANGE);
        due("day 20000", x.pairs(20000), 0);
        due("pair day -1", x.pair(-1, 0, 0), DialDesk.NONE);
        due("pair day 20001", x.pair(20001, 0, 0), DialDesk.NONE);
        due("pair -1", x.pair(7, -1, 0), DialDesk.NONE);
        due("pair 1", x.pair(7, 1, 0), DialDesk.NONE);
        due("side -1", x.pair(7, 0, -1), DialDesk.NONE);
        due("side 2", x.pair(7, 0, 2), DialDesk.NONE);
        due("pair of day 9", x.pair(9, 0, 0), DialDesk.NONE);
        x.block(0, 15, 3, 3, 0);
        x.lengthen(2, 1, 20, 10);
        due("parked makes a pair with the new one", x.pairs(20), 1);
        due("lesser", x.pair(20, 0, 0), 3);
        due("other", x.pair(20, 0, 1), 4);
        due("parked is gone", x.pairs(30), 0);
    }

    private static void pairsInOrder() {
        DialDesk x = new DialDesk();
        x.service(112, 0, 0);
        x.service(134, 0, 0);
        x.service(1345, 0, 0);
        x.service(1123, 0, 0);
        x.service(13456, 0, 0);
        int[][] due = {{0, 3}, {1, 2}, {1, 4}, {2, 4}};
        due("pairs", x.pairs(0), due.length);
        for (int i = 0; i < due.length; i++) {
            due("pair " + i, x.pair(0, i, 0), due[i][0]);
            due("pair other " + i, x.pair(0, i, 1), due[i][1]);
        }
    }

    private static void manyPairs() {
        DialDesk x = new DialDesk();
        for (int e = 0; e < 120; e++) {
            x.foreign(11, 3 + e % 5, 9, 0);
        }
        due("all pairs", x.pairs(0), 120 * 119 / 2);
        int[] places = {0, 63, 64, 118, 119, 182, 183, 7139, 3000, 6500};
        for (int i : places) {
            int lesser = 0;
            int left = i;
            while (left >= 119 - lesser) {
                left -= 119 - lesser;
                lesser++;
            }
            due("lesser of " + i, x.pair(0, i, 0), lesser);
            due("other of " + i, x.pair(0, i, 1), lesser + 1 + left);
        }
        due("behind the last", x.pair(0, 7140, 0), DialDesk.NONE);
        x.finish(70, 5);
        due("one less", x.pairs(5), 119 * 118 / 2);
        due("gone from the first's", x.pair(5, 69, 1), 71);
    }
}
