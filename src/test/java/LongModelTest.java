import java.util.ArrayList;
import java.util.List;
import java.util.Random;

/**
 * Random runs over the document's whole widths (prefixes of 7 figures, lengths of 12 and 15, days up to 20000, weeks up
 * to 2000), each answer against that of the slow desk. What is put and dialled follows a few stems, so that long
 * numbers meet.
 */
public final class LongModelTest {
    private static final int RUNS = 250;
    private static final int CALLS = 300;
    private static final int[] SPANS = {12, 90, 1500, 9000};
    private static final Due DUE = new Due("LongModelTest");

    private final Random random;
    private final int seed;
    private final int span;
    private final String[] stems = new String[3];
    private final DialDesk x = new DialDesk();
    private final NaiveDesk y = new NaiveDesk(false);

    private LongModelTest(int seed) {
        this.seed = seed;
        this.random = new Random(seed);
        this.span = SPANS[seed % SPANS.length];
        for (int i = 0; i < stems.length; i++) {
            stems[i] = i > 0 && pick(2) == 0 ? stems[0].substring(0, pick(8)) : "";
            stems[i] = withAny(stems[i], 15);
        }
    }

    public static void main(String[] args) {
        int from = args.length > 0 ? Integer.parseInt(args[0]) : 0;
        int runs = args.length > 1 ? Integer.parseInt(args[1]) : RUNS;
        for (int seed = from; seed < from + runs && DUE.wrong() == 0; seed++) {
            new LongModelTest(seed).run();
        }
        for (int seed = from; seed < from + runs && DUE.wrong() == 0; seed++) {
            new LongModelTest(seed).runReliefs();
        }
        DUE.end();
    }

    private void due(String call, long got, long due) {
        DUE.is("seed " + seed + " " + call, got, due);
    }

    private int pick(int below) {
        return random.nextInt(below);
    }

    private String withAny(String figures, int length) {
        StringBuilder text = new StringBuilder(figures);
        while (text.length() < length) {
            text.append(pick(10));
        }
        return text.toString();
    }

    /** So many figures, mostly along a stem. */
    private String along(int length) {
        String stem = stems[pick(stems.length)];
        int kept = pick(3) > 0 ? length : pick(length + 1);
        return withAny(stem.substring(0, Math.min(kept, stem.length())), length);
    }

    private static long told(String figures) {
        return Long.parseLong("1" + figures);
    }

    private int prefix(int most) {
        return (int) told(along(1 + pick(most)));
    }

    private static int placesOf(int told) {
        return Integer.toString(told).length() - 1;
    }

    /** Mostly with the figure that a stem has behind the prefix. */
    private int set(int prefix) {
        int place = placesOf(prefix);
        int stemFigure = 1 << stems[pick(stems.length)].charAt(place) - '0';
        int kind = pick(5);
        return kind == 0 ? 1023 : kind == 1 ? stemFigure : kind == 2 ? pick(1025) : stemFigure | 1 << pick(10);
    }

    private int length(int prefix) {
        return placesOf(prefix) + pick(13 - placesOf(prefix)) + (pick(15) == 0 ? 1 : pick(2));
    }

    private int day() {
        int kind = pick(20);
        if (kind == 0) {
            return pick(20003) - 1;
        }
        return kind < 4 ? y.clock + pick(3) : y.clock + pick(span);
    }

    private int weekStart() {
        return (y.clock + 6) / 7 * 7 + 7 * pick(1 + span / 7) + (pick(3) == 0 ? pick(3) - 1 : 0);
    }

    private int days() {
        int kind = pick(5);
        return kind == 0 ? 0 : kind == 1 ? pick(1003) - 1 : pick(Math.min(1001, 2 * span));
    }

    private int entry() {
        return pick(y.rows.size() + 1) - (pick(30) == 0 ? 1 : 0);
    }

    private int block() {
        for (int i = 0; i < 20; i++) {
            int e = entry();
            if (y.entry(e, 0) == 0 && (pick(6) == 0 || y.rows.get(e).inForce(y.clock))) {
                return e;
            }
        }
        return entry();
    }

    private void run() {
        for (int call = 0; call < CALLS && DUE.wrong() == 0; call++) {
            switch (pick(12)) {
                case 0:
                case 1:
                    put();
                    break;
                case 2:
                case 3:
                    change();
                    break;
                case 4:
                case 5:
                    changeLines();
                    break;
                case 6:
                case 7:
                    dial();
                    break;
                case 8:
                    changeSupply();
                    break;
                case 9:
                    askSupply();
                    break;
                default:
                    ask();
            }
        }
        askAll();
    }

    /** Blocks and options that seldom make pairs, over all weeks, with a demand that outgrows them. */
    private void runReliefs() {
        int start = pick(3) == 0 ? pick(14020) : pick(3) == 0 ? 13980 + pick(40) : pick(span);
        due("now", x.now(start), y.now(start));
        for (int i = 1 + pick(8); i > 0; i--) {
            int b = (int) told(withAny(Integer.toString(pick(5)), 2 + pick(3)));
            int n = placesOf(b) + 1 + pick(4);
            int d = pick(2) == 0 ? start : Math.min(20000, weekStart());
            int s = set(b);
            due("block", x.block(0, b, s, n, d), y.block(0, b, s, n, d));
            if (pick(2) == 0) {
                int e = y.rows.size() - 1;
                int end = weekStart();
                due("finish", x.finish(e, end), y.finish(e, end));
            }
        }
        int p = 0;
        for (int o = 0; o < 8; o++) {
            int a = pick(9) == 0 ? 1 : 0;
            p = o > 0 && pick(3) == 0 ? p : (int) told(withAny(Integer.toString(3 + pick(7)), 2 + pick(3)));
            int s = set(p);
            int n = placesOf(p) + 1 + pick(4);
            int d = pick(2) == 0 ? start : Math.min(20000, weekStart());
            int c = 1 + pick(20);
            due("mightCome", x.mightCome(a, p, s, n, d, c), y.mightCome(a, p, s, n, d, c));
        }
        int later = start + (pick(3) == 0 ? pick(15) : 0);
        due("now", x.now(later), y.now(later));
        for (int i = 0; i < 6; i++) {
            int m = pick(1 + 1500 / (1 + span / 14));
            int f = (int) Math.max(0, y.room(0, later) + pick(2000) - 500 - (long) m * (later / 7 + pick(20)));
            due("demand", x.demand(0, f, m), y.demand(0, f, m));
            due("shortage", x.shortage(0), y.shortage(0));
            for (int w = 1; w <= 2000; w = w * 4 / 3 + 1) {
                due("relief " + w, x.relief(0, w), y.relief(0, w));
            }
        }
    }

    private void put() {
        int d = pick(2) == 0 ? y.clock : day();
        int p = prefix(7);
        switch (pick(4)) {
            case 0: {
                int n = prefix(8);
                due("service " + n, x.service(n, n % 101, d), y.service(n, n % 101, d));
                break;
            }
            case 1: {
                int f = prefix(5);
                int least = placesOf(f) + pick(8);
                int most = least + pick(9);
                due("foreign " + f, x.foreign(f, least, most, d), y.foreign(f, least, most, d));
                break;
            }
            default: {
                int a = pick(3);
                int s = set(p);
                int n = length(p);
                due("block " + p + " " + s + " " + n, x.block(a, p, s, n, d), y.block(a, p, s, n, d));
            }
        }
    }

    private void change() {
        int d = day();
        int days = days();
        int e = block();
        switch (pick(5)) {
            case 0:
                e = entry();
                due("finish " + e + " " + d, x.finish(e, d), y.finish(e, d));
                break;
            case 1:
            case 2: {
                int f = pick(10);
                due("lengthen " + e, x.lengthen(e, f, d, days), y.lengthen(e, f, d, days));
                break;
            }
            default: {
                int p = prefix(7);
                int own = Math.max(0, y.entry(e, 3));
                int s = pick(8) == 0 ? pick(1024) : pick(3) == 0 ? own : own & pick(1024);
                int a = pick(3);
                due("split " + e + " " + s, x.split(e, s, p, a, d, days), y.split(e, s, p, a, d, days));
            }
        }
    }

    private int figuresBehind(int e) {
        if (y.entry(e, 0) != 0) {
            return prefix(8);
        }
        int places = placesOf(y.entry(e, 2));
        int behind = Math.min(9, y.entry(e, 4) - places);
        String text = stems[pick(stems.length)].substring(places, places + 1);
        for (int f = 0; f <= 9 && pick(2) == 0; f++) {
            if ((y.entry(e, 3) >> f & 1) == 1) {
                text = Integer.toString(f);
            }
        }
        for (int i = 1; i < behind; i++) {
            text = text + pick(2);
        }
        return (int) told(text);
    }

    private int line() {
        return pick(y.wires.size() + 1) - (pick(30) == 0 ? 1 : 0);
    }

    private void changeLines() {
        int l = line();
        switch (pick(7)) {
            case 0: {
                int d = pick(3) == 0 ? y.clock + pick(2 + span / 8) : y.clock + pick(4) - 1;
                due("now " + d, x.now(d), y.now(d));
                break;
            }
            case 1:
                due("drop " + l, x.drop(l), y.drop(l));
                break;
            case 2: {
                int c = pick(102) - 1;
                due("port " + l, x.port(l, c), y.port(l, c));
                break;
            }
            default: {
                int e = block();
                int f = figuresBehind(e);
                due("line " + e + " " + f, x.line(e, f), y.line(e, f));
            }
        }
    }

    /** A number of a line, on some day, or a way along a stem. */
    private String toDial() {
        long number = y.numberOf(line(), day());
        return number > 0 && pick(3) > 0 ? Long.toString(number).substring(1) : along(15);
    }

    private void dial() {
        int k = pick(4);
        if (y.told(k, 2) != 0 || pick(4) == 0) {
            due("call " + k, x.call(k), y.call(k));
        }
        String figures = toDial();
        int most = 1 + pick(figures.length());
        for (int i = Math.max(0, y.told(k, 0)); i < figures.length() && i < most; i++) {
            int f = figures.charAt(i) - '0';
            due("figure " + k + " " + f, x.figure(k, f), y.figure(k, f));
            tellAll(k);
        }
        if (pick(3) == 0) {
            due("waits " + k, x.waits(k), y.waits(k));
            tellAll(k);
        }
    }

    private void tellAll(int k) {
        for (int what = -1; what <= 11; what++) {
            due("told " + k + " " + what, x.told(k, what), y.told(k, what));
        }
    }

    private void changeSupply() {
        int a = pick(3);
        switch (pick(4)) {
            case 0: {
                long there = y.room(a, Math.min(20000, weekStart()));
                int f = (int) Math.min(1000000001L, there + pick(50) - 10 - (pick(2) == 0 ? there / 3 : 0));
                int m = pick(3) == 0 ? 0 : (int) Math.min(1000001L, 1 + there / (1 + pick(3000)));
                due("demand " + f + " " + m, x.demand(a, f, m), y.demand(a, f, m));
                break;
            }
            case 1: {
                int o = pick(9);
                due("take " + o, x.take(o), y.take(o));
                break;
            }
            default: {
                int p = prefix(7);
                int s = set(p);
                int n = length(p);
                int d = pick(2) == 0 ? y.clock : weekStart();
                int c = pick(9) == 0 ? pick(1000002) : pick(5);
                due("mightCome " + p, x.mightCome(a, p, s, n, d, c), y.mightCome(a, p, s, n, d, c));
            }
        }
    }

    private void askSupply() {
        int a = pick(3);
        int d = day();
        due("room " + a + " " + d, x.room(a, d), y.room(a, d));
        due("shortage " + a, x.shortage(a), y.shortage(a));
        int[] ws = {1, 2 + pick(20), 1 + pick(400), 1 + pick(2000), 2000, 2001};
        for (int w : ws) {
            due("relief " + a + " " + w, x.relief(a, w), y.relief(a, w));
        }
    }

    private void ask() {
        int d = day();
        switch (pick(4)) {
            case 0:
                askPairs(d);
                break;
            case 1:
                for (int i = 0; i < 10; i++) {
                    long number = told(pick(2) == 0 ? toDial() : along(1 + pick(16)));
                    due("leads " + number + " " + d, x.leads(number, d), y.leads(number, d));
                }
                break;
            case 2:
                for (int what = -1; what <= 6; what++) {
                    due("count " + what, x.count(what), y.count(what));
                }
                break;
            default:
                askLine(line(), d);
        }
    }

    private void askPairs(int d) {
        int all = y.pairs(d);
        due("pairs " + d, x.pairs(d), all);
        List<Integer> looked = new ArrayList<>(List.of(-1, 0, all - 1, all));
        for (int i = 0; i < 6 && all > 0; i++) {
            looked.add(pick(all));
        }
        for (int i : looked) {
            for (int side = -1; side <= 2; side++) {
                due("pair " + d + " " + i + " " + side, x.pair(d, i, side), y.pair(d, i, side));
            }
        }
    }

    private void askLine(int l, int d) {
        due("numberOf " + l + " " + d, x.numberOf(l, d), y.numberOf(l, d));
        for (int what = -1; what <= 3; what++) {
            due("lineAt " + l + " " + d + " " + what, x.lineAt(l, d, what), y.lineAt(l, d, what));
        }
    }

    /** Every entry, and every line on the days around which an entry comes or ends. */
    private void askAll() {
        for (int e = 0; e <= y.rows.size(); e++) {
            for (int what = -1; what <= 9; what++) {
                due("entry " + e + " " + what, x.entry(e, what), y.entry(e, what));
            }
            int turn = pick(2) == 0 ? y.entry(e, 6) : y.entry(e, 7);
            for (int l = 0; l < y.wires.size() && turn >= 0; l++) {
                askLine(l, turn - 1 + pick(3));
                long number = y.numberOf(l, turn - 1);
                due("leads " + number, x.leads(number, turn), y.leads(number, turn));
            }
        }
    }
}
