import java.util.ArrayList;
import java.util.List;
import java.util.function.Supplier;

/**
 * What later calls can show of a desk: rows of calls, first those that only ask, then those that change. Two desks
 * that answer all of them alike are alike as far as the document goes.
 */
final class Looks {
    interface Question {
        long ask(DialDesk x);
    }

    record Look(String call, Question question) {
    }

    private static final int[] DAYS = {0, 1, 4, 5, 8, 9, 10, 11, 12, 15, 18, 19, 20, 21, 49, 50, 51, 20000};
    private static final int[] AREAS = {0, 1, 2, 14, 15};
    private static final long[] NUMBERS = {10, 12345, 140345, 12777, 130123, 1302123, 1112, 1000000, 1999999999999999L};

    private final List<List<Look>> rows = new ArrayList<>();
    private List<Look> row;
    private final Supplier<DialDesk> state;
    private final int entries;
    private final int lines;
    private final int clock;

    private Looks(Supplier<DialDesk> state) {
        this.state = state;
        DialDesk sample = state.get();
        entries = sample.count(0);
        lines = sample.count(1);
        clock = sample.count(3);
    }

    /** The rows that suit desks of a state. */
    static List<List<Look>> of(Supplier<DialDesk> state) {
        Looks looks = new Looks(state);
        looks.atEntries();
        looks.atPairs();
        looks.atLines();
        looks.atCalls();
        looks.atAreas();
        looks.atChanges();
        looks.atWhatLinesCanDo();
        looks.atWhatCallsCanDo();
        looks.atOptions();
        looks.atRoomForEntries();
        return looks.rows;
    }

    private void begin() {
        row = new ArrayList<>();
        rows.add(row);
    }

    private void look(String call, Question question) {
        row.add(new Look(call, question));
    }

    private void atEntries() {
        begin();
        for (int what = 0; what <= 5; what++) {
            int w = what;
            look("count(" + w + ")", x -> x.count(w));
        }
        for (int i = 0; i < 9 * (entries + 1); i++) {
            int e = i / 9;
            int w = i % 9;
            look("entry(" + e + ", " + w + ")", x -> x.entry(e, w));
        }
    }

    private void atPairs() {
        begin();
        for (int day : DAYS) {
            look("pairs(" + day + ")", x -> x.pairs(day));
            for (int i = 0; i < 6; i++) {
                int at = i / 2;
                int side = i % 2;
                look("pair(" + day + ", " + at + ", " + side + ")", x -> x.pair(day, at, side));
            }
        }
    }

    private void atLines() {
        begin();
        for (int l : someLines()) {
            for (int day : DAYS) {
                look("numberOf(" + l + ", " + day + ")", x -> x.numberOf(l, day));
                for (int what = 0; what < 3; what++) {
                    int w = what;
                    look("lineAt(" + l + ", " + day + ", " + w + ")", x -> x.lineAt(l, day, w));
                }
            }
        }
        for (long number : NUMBERS) {
            for (int day : DAYS) {
                look("leads(" + number + ", " + day + ")", x -> x.leads(number, day));
            }
        }
    }

    private List<Integer> someLines() {
        List<Integer> some = new ArrayList<>();
        for (int l = 0; l <= lines; l++) {
            if (l < 3 || l > lines - 2) {
                some.add(l);
            }
        }
        return some;
    }

    private void atCalls() {
        begin();
        for (int i = 0; i < 44; i++) {
            int k = i / 11;
            int w = i % 11;
            look("told(" + k + ", " + w + ")", x -> x.told(k, w));
        }
    }

    private void atAreas() {
        begin();
        for (int area : AREAS) {
            for (int day : DAYS) {
                look("room(" + area + ", " + day + ")", x -> x.room(area, day));
            }
            look("shortage(" + area + ")", x -> x.shortage(area));
            for (int weeks : new int[] {1, 2, 10, 2000}) {
                look("relief(" + area + ", " + weeks + ")", x -> x.relief(area, weeks));
            }
        }
        for (int area = 0; area < 16; area++) {
            int a = area;
            look("demand(" + a + ", 0, 1)", x -> x.demand(a, 0, 1));
        }
    }

    /** One thing told of all entries, and of the one behind the last. */
    private int[] column(int what) {
        DialDesk sample = state.get();
        int[] told = new int[entries + 1];
        for (int e = 0; e <= entries; e++) {
            told[e] = sample.entry(e, what);
        }
        return told;
    }

    private void atChanges() {
        int[] sets = column(3);
        for (int turn = 0; turn < 3; turn++) {
            begin();
            for (int e = 0; e <= entries; e++) {
                change(turn, e, sets[e]);
            }
            look("count(0)", x -> x.count(0));
        }
    }

    private void change(int turn, int e, int set) {
        int day = clock + 2;
        int lowest = set & -set;
        if (turn == 0) {
            look("split(" + e + ", " + lowest + ")", x -> x.split(e, lowest, 18, 3, day, 0));
        } else if (turn == 1) {
            look("lengthen(" + e + ")", x -> x.lengthen(e, 1, day, 1));
        } else {
            look("finish(" + e + ")", x -> x.finish(e, day));
        }
    }

    private void atWhatLinesCanDo() {
        begin();
        for (int l : someLines()) {
            look("port(" + l + ")", x -> x.port(l, 88));
            look("drop(" + l + ")", x -> x.drop(l));
        }
        int[] prefixes = column(2);
        int[] sets = column(3);
        int[] lengths = column(4);
        for (int i = 0; i < entries; i++) {
            int e = i;
            int behind = lengths[e] + 1 - String.valueOf(prefixes[e]).length();
            if (sets[e] > 0 && behind <= 9) {
                int figures = leastFigures(sets[e], behind);
                look("line(" + e + ", " + figures + ")", x -> x.line(e, figures));
            }
        }
        look("count(1)", x -> x.count(1));
        look("count(5)", x -> x.count(5));
    }

    private static int leastFigures(int set, int count) {
        StringBuilder told = new StringBuilder("1").append(Integer.numberOfTrailingZeros(set));
        while (told.length() <= count) {
            told.append('0');
        }
        return Integer.parseInt(told.toString());
    }

    private void atWhatCallsCanDo() {
        begin();
        for (int call = 0; call < 4; call++) {
            int k = call;
            look("waits(" + k + ")", x -> x.waits(k));
            look("told(" + k + ", 2)", x -> x.told(k, 2));
            look("figure(" + k + ", 2)", x -> x.figure(k, 2));
            look("told(" + k + ", 0)", x -> x.told(k, 0));
            look("told(" + k + ", 1)", x -> x.told(k, 1));
            look("told(" + k + ", 4)", x -> x.told(k, 4));
            look("call(" + k + ")", x -> x.call(k));
        }
        begin();
        for (int call = 0; call < 4; call++) {
            int k = call;
            look("figure(" + k + ", 2)", x -> x.figure(k, 2));
        }
    }

    private void atOptions() {
        begin();
        for (int o = 0; o < 9; o++) {
            int cost = o;
            look("mightCome " + o, x -> x.mightCome(15, 1900 + cost, 1, 4, 20000, cost));
        }
        begin();
        for (int o = 8; o >= -1; o--) {
            int at = o;
            look("take(" + o + ")", x -> x.take(at));
            look("count(2)", x -> x.count(2));
        }
        for (int i = 0; i < 9; i++) {
            int w = i;
            look("entry(" + entries + ", " + w + ")", x -> x.entry(entries, w));
        }
    }

    private void atRoomForEntries() {
        begin();
        for (int i = 0; i <= 120 - entries; i++) {
            look("block " + i, x -> x.block(14, 1999, 1, 5, 20000));
        }
    }
}
