import java.util.ArrayList;
import java.util.List;

/**
 * The document's words done the slow way: lines are walked day by day, and shortages are looked for week by week.
 * For calls whose numbers have five figures at most, every NUMBER can be listed; else they are told place by place.
 */
final class NaiveDesk {
    static final int NONE = -1;
    static final int RANGE = -2;
    static final int FULL = -3;
    private static final int MOST_FIGURES = 15;

    static final class Row {
        int kind;
        int belongs;
        String prefix;
        int set;
        int least;
        int most;
        int first;
        int end = NONE;
        int from = NONE;
        int changeDay = NONE;
        Numbers numbers;

        boolean inForce(int day) {
            return first <= day && (end == NONE || day < end);
        }
    }

    static final class Wire {
        int block;
        String figures;
        int first;
        int end = NONE;
        final List<int[]> portings = new ArrayList<>();
    }

    static final class Dialled {
        int day;
        String figures = "";
        int answer = NONE;
        boolean over;
    }

    static final class Choice {
        Row row;
        int cost;
    }

    final List<Row> rows = new ArrayList<>();
    final List<Wire> wires = new ArrayList<>();
    final List<Choice> choices = new ArrayList<>();
    final Dialled[] calls = new Dialled[4];
    final long[] first = new long[16];
    final long[] more = new long[16];
    int clock = 0;
    private final boolean listed;
    private int portings = 0;

    NaiveDesk(boolean listed) {
        this.listed = listed;
    }

    private static String figures(long told) {
        String text = Long.toString(told);
        return told > 9 && text.charAt(0) == '1' ? text.substring(1) : null;
    }

    private static boolean bad(String figures, int least, int most) {
        return figures == null || figures.length() < least || figures.length() > most;
    }

    private Row row(int e) {
        return e >= 0 && e < rows.size() ? rows.get(e) : null;
    }

    private Row newRow(int kind, int belongs, String prefix, int set, int least, int most) {
        Row r = new Row();
        r.kind = kind;
        r.belongs = belongs;
        r.prefix = prefix;
        r.set = set;
        r.least = least;
        r.most = most;
        r.numbers = listed ? new Numbers.Listed(prefix, set, least, most) : new Numbers.Spelled(prefix, set, least, most);
        return r;
    }

    int now(int day) {
        if (day < clock || day > 20000) {
            return RANGE;
        }
        clock = day;
        return day;
    }

    private boolean badDay(int day) {
        return day < clock || day > 20000;
    }

    private Row blockRow(int area, int prefix, int set, int length, int day) {
        String p = figures(prefix);
        if (bad(p, 1, 7) || area < 0 || area > 15 || set < 1 || set > 1023 || length <= p.length() || length > 12
            || badDay(day)) {
            return null;
        }
        Row r = newRow(0, area, p, set, length, length);
        r.first = day;
        return r;
    }

    private int put(Row r) {
        if (r == null) {
            return RANGE;
        }
        if (rows.size() == 120) {
            return FULL;
        }
        rows.add(r);
        return rows.size() - 1;
    }

    int block(int area, int prefix, int set, int length, int day) {
        return put(blockRow(area, prefix, set, length, day));
    }

    int service(int number, int service, int day) {
        String p = figures(number);
        if (bad(p, 2, 7) || service < 0 || service > 99 || badDay(day)) {
            return RANGE;
        }
        Row r = newRow(1, service, p, 0, p.length(), p.length());
        r.first = day;
        return put(r);
    }

    int foreign(int prefix, int least, int most, int day) {
        String p = figures(prefix);
        if (bad(p, 1, 4) || least <= p.length() || least > most || most > 15 || badDay(day)) {
            return RANGE;
        }
        Row r = newRow(2, NONE, p, 0, least, most);
        r.first = day;
        return put(r);
    }

    int finish(int e, int day) {
        Row r = row(e);
        if (r == null || r.kind == 3 || badDay(day) || day <= r.first || (r.end != NONE && day >= r.end)) {
            return RANGE;
        }
        r.end = day;
        return 1;
    }

    private boolean cannotChange(Row r, int day, int days) {
        return r == null || r.kind != 0 || r.changeDay != NONE || badDay(day) || day <= r.first
            || (r.end != NONE && day >= r.end) || days < 0 || days > 1000;
    }

    private int change(int e, List<Row> coming, int day, int days, int answer) {
        Row old = rows.get(e);
        if (rows.size() + coming.size() > 120) {
            return FULL;
        }
        for (Row r : coming) {
            r.first = day;
            r.from = e;
            r.end = old.end;
            if (r.kind == 3) {
                r.end = old.end == NONE || day + days < old.end ? day + days : old.end;
                r.belongs = answer;
            }
            rows.add(r);
        }
        old.end = day;
        old.changeDay = day;
        return answer;
    }

    int split(int e, int set, int prefix, int area, int day, int days) {
        Row r = row(e);
        String p = figures(prefix);
        if (cannotChange(r, day, days) || set <= 0 || (r.set | set) != r.set || bad(p, 1, 7) || area < 0 || area > 15) {
            return RANGE;
        }
        int length = p.length() + r.least - r.prefix.length();
        if (length > 12) {
            return RANGE;
        }
        List<Row> coming = new ArrayList<>();
        if (set != r.set) {
            coming.add(newRow(0, r.belongs, r.prefix, r.set - set, r.least, r.least));
        }
        coming.add(newRow(0, area, p, set, length, length));
        int answer = rows.size() + coming.size() - 1;
        if (days > 0) {
            coming.add(newRow(3, 0, r.prefix, set, r.least, r.least));
        }
        return change(e, coming, day, days, answer);
    }

    int lengthen(int e, int figure, int day, int days) {
        Row r = row(e);
        if (cannotChange(r, day, days) || figure < 0 || figure > 9 || r.prefix.length() == 7 || r.least == 12) {
            return RANGE;
        }
        List<Row> coming = new ArrayList<>();
        coming.add(newRow(0, r.belongs, r.prefix + figure, r.set, r.least + 1, r.least + 1));
        if (days > 0) {
            coming.add(newRow(3, 0, r.prefix, r.set, r.least, r.least));
        }
        return change(e, coming, day, days, rows.size());
    }

    int entry(int e, int what) {
        Row r = row(e);
        if (r == null || what < 0 || what > 8) {
            return NONE;
        }
        int[] all = {r.kind, r.belongs, Integer.parseInt("1" + r.prefix), r.set, r.least, r.most, r.first, r.end, r.from};
        return all[what];
    }

    private static boolean makePair(Row a, Row b) {
        return a.numbers.pairsWith(b.numbers);
    }

    private List<int[]> pairList(int day) {
        List<int[]> found = new ArrayList<>();
        for (int a = 0; a < rows.size(); a++) {
            for (int b = a + 1; b < rows.size(); b++) {
                if (row(a).inForce(day) && row(b).inForce(day) && makePair(row(a), row(b))) {
                    found.add(new int[] {a, b});
                }
            }
        }
        return found;
    }

    int pairs(int day) {
        return day < 0 || day > 20000 ? RANGE : pairList(day).size();
    }

    int pair(int day, int i, int side) {
        List<int[]> all = pairList(day);
        return i < 0 || i >= all.size() || side < 0 || side > 1 ? NONE : all.get(i)[side];
    }

    /** Walks a place on a block day by day; NONE: nothing is there any more. */
    private int walk(int block, String figures, int from, int day) {
        int at = block;
        for (int today = from; today <= day; today++) {
            for (int hop = 0; hop < 120 && at != NONE && rows.get(at).end != NONE && today >= rows.get(at).end; hop++) {
                at = today == rows.get(at).changeDay ? heir(at, figures) : NONE;
            }
        }
        return at;
    }

    private int heir(int old, String figures) {
        for (int e = 0; e < rows.size(); e++) {
            Row r = rows.get(e);
            if (r.kind == 0 && r.from == old && (r.set >> (figures.charAt(0) - '0') & 1) == 1) {
                return e;
            }
        }
        return NONE;
    }

    private int blockOf(Wire w, int day) {
        if (day < 0 || day > 20000 || day < w.first || (w.end != NONE && day >= w.end)) {
            return NONE;
        }
        return walk(w.block, w.figures, w.first, day);
    }

    private int wireOn(int block, String figures, int day) {
        for (int l = 0; l < wires.size(); l++) {
            if (wires.get(l).figures.equals(figures) && blockOf(wires.get(l), day) == block) {
                return l;
            }
        }
        return NONE;
    }

    int line(int e, int told) {
        Row r = row(e);
        String f = figures(told);
        if (r == null || r.kind != 0 || !r.inForce(clock) || bad(f, 1, 11)
            || f.length() != r.least - r.prefix.length() || !r.numbers.has(r.prefix + f)) {
            return RANGE;
        }
        if (wireOn(e, f, clock) != NONE) {
            return NONE;
        }
        if (wires.size() == 300) {
            return FULL;
        }
        Wire w = new Wire();
        w.block = e;
        w.figures = f;
        w.first = clock;
        wires.add(w);
        return wires.size() - 1;
    }

    private Wire wire(int l) {
        return l >= 0 && l < wires.size() ? wires.get(l) : null;
    }

    int drop(int l) {
        Wire w = wire(l);
        if (w == null || w.end != NONE) {
            return RANGE;
        }
        w.end = clock;
        return 1;
    }

    private static int carrier(Wire w, int day) {
        int found = NONE;
        for (int[] p : w.portings) {
            if (p[0] <= day) {
                found = p[1];
            }
        }
        return found;
    }

    int port(int l, int carrier) {
        Wire w = wire(l);
        if (w == null || w.end != NONE || carrier < 0 || carrier > 99) {
            return RANGE;
        }
        if (portings == 500) {
            return FULL;
        }
        portings++;
        int before = carrier(w, clock);
        w.portings.add(new int[] {clock, carrier});
        return before;
    }

    long numberOf(int l, int day) {
        Wire w = wire(l);
        int at = w == null ? NONE : blockOf(w, day);
        return at == NONE ? NONE : Long.parseLong("1" + rows.get(at).prefix + w.figures);
    }

    int lineAt(int l, int day, int what) {
        Wire w = wire(l);
        int at = w == null ? NONE : blockOf(w, day);
        if (at == NONE || what < 0 || what > 2) {
            return NONE;
        }
        return what == 0 ? at : what == 1 ? carrier(w, day) : rows.get(at).belongs;
    }

    int call(int k) {
        if (k < 0 || k > 3) {
            return RANGE;
        }
        calls[k] = new Dialled();
        calls[k].day = clock;
        return clock;
    }

    private boolean isNumber(String f, int day) {
        return leadRow(f, day) != NONE;
    }

    private int longest(String f, int day, boolean shortest) {
        int found = NONE;
        for (Row r : rows) {
            for (int behind = 1; behind <= MOST_FIGURES && r.inForce(day); behind++) {
                if (r.numbers.hasLonger(f, behind)) {
                    found = found == NONE ? behind : shortest ? Math.min(found, behind) : Math.max(found, behind);
                }
            }
        }
        return found;
    }

    private int answerTo(String f, int day) {
        boolean whole = isNumber(f, day);
        boolean longer = longest(f, day, false) != NONE;
        return whole ? longer ? 2 : 1 : longer ? 0 : 3;
    }

    int figure(int k, int figure) {
        if (k < 0 || k > 3 || figure < 0 || figure > 9) {
            return RANGE;
        }
        Dialled c = calls[k];
        if (c == null || c.over) {
            return NONE;
        }
        c.figures += figure;
        c.answer = answerTo(c.figures, c.day);
        c.over = c.answer == 1 || c.answer == 3;
        return c.answer;
    }

    int waits(int k) {
        if (k < 0 || k > 3) {
            return RANGE;
        }
        Dialled c = calls[k];
        if (c == null || c.over) {
            return NONE;
        }
        if (c.answer == 2) {
            c.over = true;
            return 1;
        }
        return 0;
    }

    private int leadRow(String f, int day) {
        int[] kinds = {1, 0, 3, 2};
        for (int kind : kinds) {
            for (int e = 0; e < rows.size(); e++) {
                Row r = rows.get(e);
                if (r.kind == kind && r.inForce(day) && r.numbers.has(f)) {
                    return e;
                }
            }
        }
        return NONE;
    }

    private int leadWire(String f, int day) {
        int e = leadRow(f, day);
        if (e == NONE || rows.get(e).kind == 1 || rows.get(e).kind == 2) {
            return NONE;
        }
        Row r = rows.get(e);
        String behind = f.substring(r.prefix.length());
        int at = r.kind == 0 ? e : walk(r.belongs, behind, r.first, day);
        return at == NONE ? NONE : wireOn(at, behind, day);
    }

    int told(int k, int what) {
        Dialled c = k < 0 || k > 3 ? null : calls[k];
        if (c == null) {
            return NONE;
        }
        int e = c.figures.isEmpty() ? NONE : leadRow(c.figures, c.day);
        int l = c.figures.isEmpty() ? NONE : leadWire(c.figures, c.day);
        switch (what) {
            case 0: return c.figures.length();
            case 1: return c.answer;
            case 2: return c.over ? 1 : 0;
            case 3: return c.day;
            case 4: return e;
            case 5: return l;
            case 6: return l == NONE ? NONE : carrier(wires.get(l), c.day);
            case 7: return e != NONE && rows.get(e).kind == 1 ? rows.get(e).belongs : NONE;
            case 8: return bitsBehind(c);
            case 9: return c.over ? NONE : longest(c.figures, c.day, true);
            case 10: return c.over ? NONE : longest(c.figures, c.day, false);
            default: return NONE;
        }
    }

    private int bitsBehind(Dialled c) {
        int bits = 0;
        for (int f = 0; f <= 9 && !c.over; f++) {
            if (answerTo(c.figures + f, c.day) != 3) {
                bits |= 1 << f;
            }
        }
        return bits;
    }

    int leads(long number, int day) {
        String f = figures(number);
        return bad(f, 1, 15) || day < 0 || day > 20000 ? RANGE : leadWire(f, day);
    }

    int demand(int area, int firstAsked, int moreAsked) {
        if (area < 0 || area > 15 || firstAsked < 0 || firstAsked > 1000000000 || moreAsked < 0 || moreAsked > 1000000) {
            return RANGE;
        }
        int before = (int) first[area];
        first[area] = firstAsked;
        more[area] = moreAsked;
        return before;
    }

    long room(int area, int day) {
        if (area < 0 || area > 15 || day < 0 || day > 20000) {
            return RANGE;
        }
        return roomWith(area, day, new ArrayList<>());
    }

    private long roomWith(int area, int day, List<Row> others) {
        return roomOf(blocksOf(area, others), day);
    }

    private List<Row> blocksOf(int area, List<Row> others) {
        List<Row> found = new ArrayList<>(rows);
        found.addAll(others);
        found.removeIf(r -> r.kind != 0 || r.belongs != area);
        return found;
    }

    private static long roomOf(List<Row> blocks, int day) {
        long found = 0;
        for (Row r : blocks) {
            found += r.inForce(day) ? r.numbers.size() : 0;
        }
        return found;
    }

    private int shortWeek(int area, List<Row> others) {
        List<Row> blocks = blocksOf(area, others);
        int lastTurn = clock;
        for (Row r : blocks) {
            lastTurn = Math.max(lastTurn, Math.max(r.first, r.end));
        }
        long there = 0;
        for (int week = clock / 7; week <= 2000; week++) {
            if (7 * week <= lastTurn + 7) {
                there = roomOf(blocks, 7 * week);
            }
            if (first[area] + more[area] * week > there) {
                return week;
            }
        }
        return NONE;
    }

    int shortage(int area) {
        return area < 0 || area > 15 ? RANGE : shortWeek(area, new ArrayList<>());
    }

    int mightCome(int area, int prefix, int set, int length, int day, int cost) {
        Row r = blockRow(area, prefix, set, length, day);
        if (r == null || cost < 0 || cost > 1000000) {
            return RANGE;
        }
        if (choices.size() == 8) {
            return FULL;
        }
        Choice c = new Choice();
        c.row = r;
        c.cost = cost;
        choices.add(c);
        return choices.size() - 1;
    }

    private boolean isRelief(List<Row> chosen, int area, int w, int without) {
        if (rows.size() + chosen.size() > 120) {
            return false;
        }
        for (Row r : chosen) {
            if (r.first < clock) {
                return false;
            }
            List<Row> all = new ArrayList<>(rows);
            all.addAll(chosen);
            for (Row other : all) {
                if (other != r && other.inForce(r.first) && makePair(r, other)) {
                    return false;
                }
            }
        }
        int with = shortWeek(area, chosen);
        return with == NONE || with >= without + w;
    }

    int relief(int area, int w) {
        if (area < 0 || area > 15 || w < 1 || w > 2000) {
            return RANGE;
        }
        int without = shortage(area);
        int best = NONE;
        int bestCost = Integer.MAX_VALUE;
        for (int bits = 0; bits < 1 << choices.size() && without != NONE; bits++) {
            List<Row> chosen = new ArrayList<>();
            int cost = 0;
            for (int o = 0; o < choices.size(); o++) {
                if ((bits >> o & 1) == 1) {
                    chosen.add(choices.get(o).row);
                    cost += choices.get(o).cost;
                }
            }
            if (cost < bestCost && isRelief(chosen, area, w, without)) {
                best = bits;
                bestCost = cost;
            }
        }
        return best;
    }

    int take(int o) {
        if (o < 0 || o >= choices.size() || choices.get(o).row.first < clock) {
            return RANGE;
        }
        int e = put(choices.get(o).row);
        if (e != FULL) {
            choices.remove(o);
        }
        return e;
    }

    int count(int what) {
        int inForce = 0;
        for (Row r : rows) {
            inForce += r.inForce(clock) ? 1 : 0;
        }
        int numbered = 0;
        for (Wire w : wires) {
            numbered += blockOf(w, clock) != NONE ? 1 : 0;
        }
        int[] all = {rows.size(), wires.size(), choices.size(), clock, inForce, numbered};
        return what < 0 || what > 5 ? NONE : all[what];
    }
}
