/** Promises 12 to 16: lines, their numbers and their carriers. */
public final class LinesTest {
    private static final Due DUE = new Due("LinesTest");

    public static void main(String[] args) {
        linesOfBlocks();
        linesThatCannotBe();
        placesTaken();
        noRoomForLines();
        drops();
        portings();
        noRoomForPortings();
        numbersThroughChanges();
        numbersOfLongBlocks();
        aLineMadeOnTheDayOfAChange();
        whatIsToldOfLines();
        DUE.end();
    }

    private static void due(String call, long got, long due) {
        DUE.is(call, got, due);
    }

    private static void linesOfBlocks() {
        DialDesk x = new DialDesk();
        x.block(4, 12, 1023, 4, 0);
        x.now(3);
        due("line", x.line(0, 1045), 0);
        due("other", x.line(0, 1145), 1);
        due("not yet", x.numberOf(0, 2), DialDesk.NONE);
        due("number", x.numberOf(0, 3), 12045);
        due("for good", x.numberOf(0, 20000), 12045);
        due("count", x.count(1), 2);
        due("numbered", x.count(5), 2);
    }

    private static void linesThatCannotBe() {
        DialDesk x = new DialDesk();
        x.block(4, 12, 10, 4, 2);
        x.service(1112, 7, 0);
        x.foreign(100, 4, 6, 0);
        due("not yet in force", x.line(0, 1145), DialDesk.RANGE);
        x.now(2);
        due("no block", x.line(3, 1145), DialDesk.RANGE);
        due("block -1", x.line(-1, 1145), DialDesk.RANGE);
        due("short", x.line(1, 112), DialDesk.RANGE);
        due("foreign", x.line(2, 1145), DialDesk.RANGE);
        due("not of the set", x.line(0, 1245), DialDesk.RANGE);
        due("too few", x.line(0, 114), DialDesk.RANGE);
        due("too many", x.line(0, 11456), DialDesk.RANGE);
        due("no 1 ahead", x.line(0, 2145), DialDesk.RANGE);
        due("negative", x.line(0, -1145), DialDesk.RANGE);
        due("zero", x.line(0, 0), DialDesk.RANGE);
        due("one", x.line(0, 1), DialDesk.RANGE);
        due("there were none", x.count(1), 0);
        x.split(0, 2, 15, 0, 6, 5);
        due("parked", x.line(5, 1145), DialDesk.RANGE);
        x.now(6);
        due("old one ended", x.line(0, 1145), DialDesk.RANGE);
        due("parked", x.line(5, 1145), DialDesk.RANGE);
        due("moved", x.line(4, 1145), 0);
        due("rest", x.line(3, 1345), 1);
    }

    private static void placesTaken() {
        DialDesk x = new DialDesk();
        x.block(4, 12, 1023, 4, 0);
        x.line(0, 1345);
        due("there is one", x.line(0, 1345), DialDesk.NONE);
        x.split(0, 8, 140, 1, 10, 20);
        x.now(10);
        due("it went on", x.line(2, 1345), DialDesk.NONE);
        due("not on the rest", x.line(1, 1345), DialDesk.RANGE);
        x.drop(0);
        due("free again", x.line(2, 1345), 1);
        due("on its day", x.numberOf(1, 10), 140345);
        due("and taken again", x.line(2, 1345), DialDesk.NONE);
    }

    private static void noRoomForLines() {
        DialDesk x = new DialDesk();
        x.block(4, 12, 1023, 5, 0);
        for (int l = 0; l < 300; l++) {
            due("line " + l, x.line(0, 10000 + l), l);
        }
        due("full", x.line(0, 10300), DialDesk.FULL);
        due("there is one", x.line(0, 10299), DialDesk.NONE);
        due("wrong", x.line(0, 1300), DialDesk.RANGE);
        x.drop(7);
        due("dropped ones count", x.line(0, 10007), DialDesk.FULL);
        due("count", x.count(1), 300);
        due("numbered", x.count(5), 299);
        due("last", x.numberOf(299, 0), 120299);
    }

    private static void drops() {
        DialDesk x = new DialDesk();
        x.block(4, 12, 1023, 4, 0);
        x.line(0, 1345);
        x.now(6);
        due("no line", x.drop(1), DialDesk.RANGE);
        due("line -1", x.drop(-1), DialDesk.RANGE);
        due("drop", x.drop(0), 1);
        due("again", x.drop(0), DialDesk.RANGE);
        due("the day ahead", x.numberOf(0, 5), 12345);
        due("that day", x.numberOf(0, 6), DialDesk.NONE);
        due("leads the day ahead", x.leads(12345, 5), 0);
        due("leads no more", x.leads(12345, 6), DialDesk.NONE);
        due("not ported any more", x.port(0, 5), DialDesk.RANGE);
        due("count", x.count(1), 1);
        due("numbered", x.count(5), 0);
        x.block(4, 13, 1023, 4, 6);
        x.line(1, 1345);
        x.finish(1, 8);
        x.now(9);
        due("one without a number is dropped", x.drop(1), 1);
        x.block(4, 14, 1023, 4, 9);
        x.line(2, 1345);
        x.drop(2);
        due("dropped on its first day", x.numberOf(2, 9), DialDesk.NONE);
    }

    private static void portings() {
        DialDesk x = new DialDesk();
        x.block(4, 12, 1023, 4, 0);
        x.line(0, 1345);
        x.now(5);
        due("carrier -1", x.port(0, -1), DialDesk.RANGE);
        due("carrier 100", x.port(0, 100), DialDesk.RANGE);
        due("no line", x.port(1, 5), DialDesk.RANGE);
        due("line -1", x.port(-1, 5), DialDesk.RANGE);
        due("first", x.port(0, 0), DialDesk.NONE);
        due("same day", x.port(0, 99), 0);
        x.now(9);
        due("later", x.port(0, 7), 99);
        due("ahead", x.lineAt(0, 4, 1), DialDesk.NONE);
        due("that day", x.lineAt(0, 5, 1), 99);
        due("till the next", x.lineAt(0, 8, 1), 99);
        due("next", x.lineAt(0, 9, 1), 7);
        due("later on", x.lineAt(0, 20000, 1), 7);
        x.finish(0, 10);
        x.now(10);
        due("without a number", x.port(0, 8), 7);
        due("leads to none then", x.lineAt(0, 10, 1), DialDesk.NONE);
    }

    private static void noRoomForPortings() {
        DialDesk x = new DialDesk();
        x.block(4, 12, 1023, 4, 0);
        x.line(0, 1345);
        for (int i = 0; i < 500; i++) {
            due("porting " + i, x.port(0, i % 100), i == 0 ? -1 : (i - 1) % 100);
        }
        due("full", x.port(0, 5), DialDesk.FULL);
        due("wrong", x.port(0, 100), DialDesk.RANGE);
        due("stays", x.lineAt(0, 0, 1), 99);
    }

    private static void numbersThroughChanges() {
        DialDesk x = new DialDesk();
        x.block(0, 12, 1023, 4, 0);
        x.line(0, 1300);
        x.line(0, 1745);
        x.split(0, 8, 140, 1, 10, 20);
        x.lengthen(2, 5, 12, 5);
        x.split(4, 8, 17, 2, 15, 5);
        x.lengthen(1, 9, 11, 5);
        x.finish(8, 13);
        int[] ofFirst = {9, 12300, 10, 140300, 11, 140300, 12, 1405300, 14, 1405300, 15, 17300, 19, 17300};
        for (int i = 0; i < ofFirst.length; i += 2) {
            due("first on " + ofFirst[i], x.numberOf(0, ofFirst[i]), ofFirst[i + 1]);
        }
        int[] ofSecond = {9, 12745, 10, 12745, 11, 129745, 12, 129745, 13, -1, 14, -1};
        for (int i = 0; i < ofSecond.length; i += 2) {
            due("second on " + ofSecond[i], x.numberOf(1, ofSecond[i]), ofSecond[i + 1]);
        }
        due("oldest number leads", x.leads(12300, 15), 0);
        due("next oldest", x.leads(140300, 15), 0);
        due("parked till 17", x.leads(140300, 16), 0);
        due("parked no more", x.leads(140300, 17), DialDesk.NONE);
        due("third", x.leads(1405300, 19), 0);
        due("newest", x.leads(17300, 19), 0);
        due("the other's parked", x.leads(12745, 12), 1);
        due("its block ended", x.leads(12745, 13), DialDesk.NONE);
        x.now(16);
        due("a line made later", x.line(6, 1301), 2);
        due("is led to by the oldest number", x.leads(12301, 16), 2);
        due("but not ahead of its day", x.leads(12301, 15), DialDesk.NONE);
    }

    private static void numbersOfLongBlocks() {
        DialDesk x = new DialDesk();
        x.block(0, 12, 1023, 10, 0);
        x.block(0, 1300, 1023, 12, 0);
        x.block(0, 14, 1023, 11, 0);
        due("nine figures", x.line(0, 1999999999), 0);
        due("number", x.numberOf(0, 0), 12999999999L);
        due("leads", x.leads(12999999999L, 0), 0);
        due("nine of twelve", x.line(1, 1000000007), 1);
        due("number", x.numberOf(1, 0), 1300000000007L);
        due("leads", x.leads(1300000000007L, 0), 1);
        due("ten cannot be told", x.line(2, 1999999999), DialDesk.RANGE);
    }

    private static void aLineMadeOnTheDayOfAChange() {
        DialDesk x = new DialDesk();
        x.block(0, 12, 1023, 4, 0);
        x.now(5);
        x.line(0, 1345);
        due("split today", x.split(0, 8, 140, 1, 5, 20), 2);
        due("is on the new one", x.numberOf(0, 5), 140345);
        due("never on the old one", x.numberOf(0, 4), DialDesk.NONE);
        due("block", x.lineAt(0, 5, 0), 2);
    }

    private static void whatIsToldOfLines() {
        DialDesk x = new DialDesk();
        x.block(4, 12, 1023, 4, 0);
        x.now(2);
        x.line(0, 1345);
        x.split(0, 8, 140, 1, 10, 20);
        x.finish(2, 30);
        x.port(0, 3);
        int[][] due = {{1, -1, -1, -1}, {2, 0, 3, 4}, {9, 0, 3, 4}, {10, 2, 3, 1}, {29, 2, 3, 1}, {30, -1, -1, -1}};
        for (int[] row : due) {
            for (int what = 0; what < 3; what++) {
                due("lineAt " + row[0] + " " + what, x.lineAt(0, row[0], what), row[what + 1]);
            }
        }
        due("what -1", x.lineAt(0, 5, -1), DialDesk.NONE);
        due("what 3", x.lineAt(0, 5, 3), DialDesk.NONE);
        due("line 1", x.lineAt(1, 5, 0), DialDesk.NONE);
        due("line -1", x.lineAt(-1, 5, 0), DialDesk.NONE);
        due("day -1", x.lineAt(0, -1, 0), DialDesk.NONE);
        due("day 20001", x.lineAt(0, 20001, 0), DialDesk.NONE);
        due("number of line 1", x.numberOf(1, 5), DialDesk.NONE);
        due("number of line -1", x.numberOf(-1, 5), DialDesk.NONE);
        due("number day -1", x.numberOf(0, -1), DialDesk.NONE);
        due("number day 20001", x.numberOf(0, 20001), DialDesk.NONE);
    }
}
