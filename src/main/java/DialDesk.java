/**
 * A desk that keeps number plans and reads dialled figures by them. What each call promises stands
 * in the project's document; README.md tells how the class is laid out.
 */
public final class DialDesk {
    public static final int NONE = -1;
    public static final int RANGE = -2;
    public static final int FULL = -3;

    private static final int BLOCK = 0;
    private static final int SHORT = 1;
    private static final int FOREIGN = 2;
    private static final int PARKED = 3;

    private static final int MORE = 0;
    private static final int DONE = 1;
    private static final int WAITS = 2;
    private static final int WRONG = 3;

    private static final int LAST_DAY = 20000;
    private static final int LAST_WEEK = 2000;
    private static final int WEEK = 7;
    private static final int AREAS = 16;
    private static final int CALLS = 4;
    private static final int MOST_ENTRIES = 120;
    private static final int MOST_LINES = 300;
    private static final int MOST_PORTINGS = 500;
    private static final int MOST_OPTIONS = 8;
    private static final int ALL_FIGURES = 1023;
    private static final int PREFIX_FIGURES = 7;
    private static final int FOREIGN_PREFIX_FIGURES = 4;
    private static final int BLOCK_LENGTH = 12;
    private static final int FOREIGN_LENGTH = 15;
    private static final int MOST_DAYS = 1000;
    private static final int MOST_FIRST = 1000000000;
    private static final int MOST_MORE = 1000000;
    private static final int MOST_COST = 1000000;
    private static final int TWO_FIGURES = 99;

    private static final long[] TENS = {
        1L, 10L, 100L, 1000L, 10000L, 100000L, 1000000L, 10000000L, 100000000L, 1000000000L,
        10000000000L, 100000000000L, 1000000000000L, 10000000000000L, 100000000000000L,
        1000000000000000L, 10000000000000000L
    };

    private final Plan plan;
    private final Lines lines;
    private final Call[] calls;
    private final Supply supply;
    private int clock;

    public DialDesk() {
        plan = new Plan();
        lines = new Lines();
        calls = new Call[CALLS];
        for (int k = 0; k < CALLS; k++) {
            calls[k] = new Call();
        }
        supply = new Supply(plan);
        clock = 0;
    }

    public int now(int day) {
        if (!isDayToCome(day)) {
            return RANGE;
        }
        clock = day;
        return day;
    }

    // ---- the plan

    public int block(int area, int prefix, int set, int length, int day) {
        if (!isBlock(area, prefix, set, length) || !isDayToCome(day)) {
            return RANGE;
        }
        return plan.append(new Entry(BLOCK, area, prefix, set, length, length, day));
    }

    public int service(int number, int service, int day) {
        int length = placesOf(number);
        if (!isWithin(length, 2, PREFIX_FIGURES) || !isWithin(service, 0, TWO_FIGURES) || !isDayToCome(day)) {
            return RANGE;
        }
        return plan.append(new Entry(SHORT, service, number, 0, length, length, day));
    }

    public int foreign(int prefix, int least, int most, int day) {
        int places = placesOf(prefix);
        if (!isWithin(places, 1, FOREIGN_PREFIX_FIGURES) || !isDayToCome(day)) {
            return RANGE;
        }
        if (least <= places || most < least || most > FOREIGN_LENGTH) {
            return RANGE;
        }
        return plan.append(new Entry(FOREIGN, NONE, prefix, 0, least, most, day));
    }

    public int finish(int e, int day) {
        Entry entry = plan.entryAt(e);
        if (entry == null || entry.kind == PARKED || !isDayToCome(day) || !entry.isInside(day)) {
            return RANGE;
        }
        entry.end = day;
        return 1;
    }

    public int split(int e, int set, int prefix, int area, int day, int days) {
        Entry old = plan.blockAt(e);
        int places = placesOf(prefix);
        if (old == null || set == 0 || (set & ~old.set) != 0 || !canChange(old, day, days)) {
            return RANGE;
        }
        if (!isWithin(places, 1, PREFIX_FIGURES) || !isWithin(area, 0, AREAS - 1)) {
            return RANGE;
        }
        int length = places + old.placesBehind();
        if (length > BLOCK_LENGTH) {
            return RANGE;
        }
        return plan.change(old, new Entry(BLOCK, area, prefix, set, length, length, day), days);
    }

    public int lengthen(int e, int figure, int day, int days) {
        Entry old = plan.blockAt(e);
        if (old == null || !isWithin(figure, 0, 9) || !canChange(old, day, days)) {
            return RANGE;
        }
        int length = old.least + 1;
        if (old.places + 1 > PREFIX_FIGURES || length > BLOCK_LENGTH) {
            return RANGE;
        }
        int prefix = old.prefix * 10 + figure;
        return plan.change(old, new Entry(BLOCK, old.belongs, prefix, old.set, length, length, day), days);
    }

    public int entry(int e, int what) {
        Entry entry = plan.entryAt(e);
        return entry == null ? NONE : entry.tell(what);
    }

    public int pairs(int day) {
        return isDay(day) ? plan.pairsOn(day) : RANGE;
    }

    public int pair(int day, int i, int side) {
        if (!isDay(day) || i < 0 || !isWithin(side, 0, 1)) {
            return NONE;
        }
        return plan.pairOn(day, i, side);
    }

    // ---- lines

    public int line(int e, int figures) {
        Entry block = plan.blockAt(e);
        if (block == null || !block.isInForce(clock) || !block.hasBehind(figures)) {
            return RANGE;
        }
        if (lines.findOn(block, figures, clock) != NONE) {
            return NONE;
        }
        return lines.append(block, figures, clock);
    }

    public int drop(int l) {
        Line line = lines.lineWith(l);
        if (line == null || line.end != NONE) {
            return RANGE;
        }
        line.end = clock;
        return 1;
    }

    public int port(int l, int carrier) {
        Line line = lines.lineWith(l);
        if (line == null || line.end != NONE || !isWithin(carrier, 0, TWO_FIGURES)) {
            return RANGE;
        }
        return lines.portTo(line, carrier, clock);
    }

    public long numberOf(int l, int day) {
        Line line = lines.lineWith(l);
        if (line == null || !isDay(day)) {
            return NONE;
        }
        Entry block = line.blockOn(day);
        return block == null ? NONE : block.numberWith(line.figures);
    }

    public int lineAt(int l, int day, int what) {
        Line line = lines.lineWith(l);
        if (line == null || !isDay(day)) {
            return NONE;
        }
        Entry block = line.blockOn(day);
        if (block == null) {
            return NONE;
        }
        switch (what) {
            case 0:
                return block.id;
            case 1:
                return line.carrierOn(day);
            case 2:
                return block.belongs;
            default:
                return NONE;
        }
    }

    // ---- calls

    public int call(int k) {
        Call call = callWith(k);
        if (call == null) {
            return RANGE;
        }
        call.begin(clock);
        return clock;
    }

    public int figure(int k, int figure) {
        Call call = callWith(k);
        if (call == null || !isWithin(figure, 0, 9)) {
            return RANGE;
        }
        if (!call.isOpen()) {
            return NONE;
        }
        call.hear(figure);
        call.answer = plan.read(call.figures, call.places, call.day).answer();
        call.over = call.answer == DONE || call.answer == WRONG;
        return call.answer;
    }

    public int waits(int k) {
        Call call = callWith(k);
        if (call == null) {
            return RANGE;
        }
        if (!call.isOpen()) {
            return NONE;
        }
        call.over = call.answer == WAITS;
        return call.over ? 1 : 0;
    }

    public int told(int k, int what) {
        Call call = callWith(k);
        if (call == null || !call.begun) {
            return NONE;
        }
        switch (what) {
            case 0:
                return call.places;
            case 1:
                return call.answer;
            case 2:
                return call.over ? 1 : 0;
            case 3:
                return call.day;
            case 4:
            case 5:
            case 6:
            case 7:
                return tellOfLead(call, what);
            case 8:
            case 9:
            case 10:
                return tellOfRest(call, what);
            default:
                return NONE;
        }
    }

    public int leads(long number, int day) {
        int places = placesOf(number);
        if (!isWithin(places, 1, FOREIGN_LENGTH) || !isDay(day)) {
            return RANGE;
        }
        Entry lead = plan.leadOf(number, places, day);
        return lead == null ? NONE : lines.findBy(lead, number, places, day);
    }

    // ---- shortage

    public int demand(int area, int first, int more) {
        Demand demand = supply.demandOf(area);
        if (demand == null || !isWithin(first, 0, MOST_FIRST) || !isWithin(more, 0, MOST_MORE)) {
            return RANGE;
        }
        int before = demand.first;
        demand.first = first;
        demand.more = more;
        return before;
    }

    public long room(int area, int day) {
        if (!isWithin(area, 0, AREAS - 1) || !isDay(day)) {
            return RANGE;
        }
        return plan.roomOf(area, day);
    }

    public int shortage(int area) {
        Demand demand = supply.demandOf(area);
        return demand == null ? RANGE : supply.firstShort(demand, clock / WEEK);
    }

    public int mightCome(int area, int prefix, int set, int length, int day, int cost) {
        if (!isBlock(area, prefix, set, length) || !isDayToCome(day) || !isWithin(cost, 0, MOST_COST)) {
            return RANGE;
        }
        return supply.offer(new Option(new Entry(BLOCK, area, prefix, set, length, length, day), cost));
    }

    public int relief(int area, int w) {
        Demand demand = supply.demandOf(area);
        if (demand == null || !isWithin(w, 1, LAST_WEEK)) {
            return RANGE;
        }
        return supply.cheapestRelief(demand, w, clock);
    }

    public int take(int o) {
        Option option = supply.optionAt(o);
        if (option == null || option.block.first < clock) {
            return RANGE;
        }
        int e = plan.append(option.block);
        if (e != FULL) {
            supply.withdraw(o);
        }
        return e;
    }

    public int count(int what) {
        switch (what) {
            case 0:
                return plan.size;
            case 1:
                return lines.size;
            case 2:
                return supply.size;
            case 3:
                return clock;
            case 4:
                return plan.inForceOn(clock);
            case 5:
                return lines.numberedOn(clock);
            default:
                return NONE;
        }
    }

    // ---- what the calls ask of their arguments

    private boolean isDayToCome(int day) {
        return isWithin(day, clock, LAST_DAY);
    }

    private boolean canChange(Entry old, int day, int days) {
        return old.changeDay == NONE && isDayToCome(day) && old.isInside(day) && isWithin(days, 0, MOST_DAYS);
    }

    private Call callWith(int k) {
        return k >= 0 && k < calls.length ? calls[k] : null;
    }

    private int tellOfLead(Call call, int what) {
        Entry entry = plan.leadOf(call.figures, call.places, call.day);
        if (entry == null) {
            return NONE;
        }
        if (what == 4) {
            return entry.id;
        }
        if (what == 7) {
            return entry.kind == SHORT ? entry.belongs : NONE;
        }
        int l = lines.findBy(entry, call.figures, call.places, call.day);
        Line line = lines.lineWith(l);
        return what == 5 || line == null ? l : line.carrierOn(call.day);
    }

    private int tellOfRest(Call call, int what) {
        if (call.over) {
            return what == 8 ? 0 : NONE;
        }
        Reading reading = plan.read(call.figures, call.places, call.day);
        if (what == 8) {
            return reading.next;
        }
        return what == 9 ? reading.leastMore : reading.mostMore;
    }

    private static boolean isDay(int day) {
        return isWithin(day, 0, LAST_DAY);
    }

    private static boolean isBlock(int area, int prefix, int set, int length) {
        int places = placesOf(prefix);
        return isWithin(area, 0, AREAS - 1)
            && isWithin(places, 1, PREFIX_FIGURES)
            && isWithin(set, 1, ALL_FIGURES)
            && isWithin(length, places + 1, BLOCK_LENGTH);
    }

    private static boolean isWithin(int value, int least, int most) {
        return value >= least && value <= most;
    }

    // ---- figures, told as a number with a 1 ahead

    private static long tens(int places) {
        return places >= 0 && places < TENS.length ? TENS[places] : 1L;
    }

    /** How many figures are told; NONE of what tells no figures. */
    private static int placesOf(long told) {
        for (int places = 0; places < TENS.length; places++) {
            if (told >= TENS[places] && told < 2 * TENS[places]) {
                return places;
            }
        }
        return NONE;
    }

    private static long withoutLast(long told, int places) {
        if (places <= 0 || places >= TENS.length) {
            return told;
        }
        long divisor = TENS[places];
        return divisor > 0 ? told / divisor : told;
    }

    private static long lastOf(long told, int places) {
        long divisor = tens(places);
        return divisor > 0 ? divisor + told % divisor : told;
    }

    /** The figure at a place counted from 0, as a bit. */
    private static int figureBit(long told, int places, int place) {
        return 1 << (int) (withoutLast(told, places - 1 - place) % 10);
    }

    /** The first week on whose first day something of this day has come. */
    private static int weekBehind(int day) {
        return (day + WEEK - 1) / WEEK;
    }

    /** One row of the plan. What makes up its NUMBERS never changes; its end and its change may. */
    private static final class Entry {
        final int kind;
        /** The area, the service, or of a PARKED one the BLOCK that it stands for. */
        final int belongs;
        final int prefix;
        final int places;
        final int set;
        final int least;
        final int most;
        final int first;
        /** Which figures can stand at the places of the prefix and at the one behind it; at later ones all can. */
        final int[] fixed;
        int id;
        int end;
        int from;
        int changeDay;
        Entry moved;
        Entry rest;
        Entry standsFor;
        /** Later entries with which this one makes a PAIR, as bits: 0 .. 63 and 64 .. 119. */
        long lowClashes;
        long highClashes;

        Entry(int kind, int belongs, int prefix, int set, int least, int most, int first) {
            this.kind = kind;
            this.belongs = belongs;
            this.prefix = prefix;
            this.places = placesOf(prefix);
            this.set = set;
            this.least = least;
            this.most = most;
            this.first = first;
            this.fixed = new int[PREFIX_FIGURES + 1];
            for (int place = 0; place < fixed.length; place++) {
                fixed[place] = place < places ? figureBit(prefix, places, place) : ALL_FIGURES;
            }
            if (set != 0 && places >= 0 && places < fixed.length) {
                fixed[places] = set;
            }
            this.id = NONE;
            this.end = NONE;
            this.from = NONE;
            this.changeDay = NONE;
        }

        int tell(int what) {
            switch (what) {
                case 0:
                    return kind;
                case 1:
                    return belongs;
                case 2:
                    return prefix;
                case 3:
                    return set;
                case 4:
                    return least;
                case 5:
                    return most;
                case 6:
                    return first;
                case 7:
                    return end;
                case 8:
                    return from;
                default:
                    return NONE;
            }
        }

        boolean isInForce(int day) {
            return day >= first && (end == NONE || day < end);
        }

        /** Behind the first day and ahead of the end: a day on which it can end. */
        boolean isInside(int day) {
            return day > first && (end == NONE || day < end);
        }

        int placesBehind() {
            return least - places;
        }

        /** Which figures can stand at a place of its NUMBERS. */
        int figuresAt(int place) {
            return place >= 0 && place < fixed.length ? fixed[place] : ALL_FIGURES;
        }

        /** Whether the figures begin one of its NUMBERS, or are one. */
        boolean fits(long told, int count) {
            if (count > most) {
                return false;
            }
            int shared = Math.min(count, places);
            if (withoutLast(told, count - shared) != withoutLast(prefix, places - shared)) {
                return false;
            }
            return count <= places || (figuresAt(places) & figureBit(told, count, places)) != 0;
        }

        boolean hasNumber(long told, int count) {
            return count >= least && fits(told, count);
        }

        boolean hasBehind(int figures) {
            int count = placesOf(figures);
            return count > 0 && count == placesBehind() && (set & figureBit(figures, count, 0)) != 0;
        }

        long numberWith(int figures) {
            long shift = tens(placesBehind());
            return prefix * shift + (figures - shift);
        }

        /**
         * Whether the two would make a PAIR. All that an entry fixes stands within its shortest NUMBERS, so
         * lengths don't matter: where the shorter one has no figures it allows all of the longer one's.
         */
        boolean clashesWith(Entry other) {
            for (int place = 0; place <= PREFIX_FIGURES; place++) {
                if ((figuresAt(place) & other.figuresAt(place)) == 0) {
                    return false;
                }
            }
            return true;
        }

        void noteClash(int other) {
            if (other < 64) {
                lowClashes |= 1L << other;
            } else {
                highClashes |= 1L << (other - 64);
            }
        }

        boolean hasClash(int other) {
            long bits = other < 64 ? lowClashes : highClashes;
            return (bits >> (other & 63) & 1L) != 0;
        }

        /**
         * Where a LINE that was on this BLOCK is on a day; null: it has no NUMBER. A change keeps what is
         * behind the prefix, so the first of these figures (as a bit) tells each way.
         */
        Entry followedTo(int head, int day) {
            Entry block = this;
            for (int step = 0; step < MOST_ENTRIES && block != null; step++) {
                if (block.end == NONE || day < block.end) {
                    return block;
                }
                block = block.nextFor(head);
            }
            return null;
        }

        private Entry nextFor(int head) {
            if (moved == null || end != changeDay) {
                return null;
            }
            return (moved.set & head) != 0 ? moved : rest;
        }

        long roomOn(int day) {
            return isInForce(day) ? Integer.bitCount(set) * tens(placesBehind() - 1) : 0L;
        }
    }

    /** The entries in the order in which they came. */
    private static final class Plan {
        final Entry[] entries;
        int size;
        /** The entries in force on the day that is looked at, as the bits of clashes. */
        long lowInForce;
        long highInForce;
        final Reading reading;

        Plan() {
            entries = new Entry[MOST_ENTRIES];
            size = 0;
            reading = new Reading();
        }

        Entry entryAt(int e) {
            return e >= 0 && e < size && e < entries.length ? entries[e] : null;
        }

        Entry blockAt(int e) {
            Entry entry = entryAt(e);
            return entry != null && entry.kind == BLOCK ? entry : null;
        }

        boolean hasRoomFor(int more) {
            return size + more <= MOST_ENTRIES;
        }

        int append(Entry entry) {
            if (!hasRoomFor(1)) {
                return FULL;
            }
            for (int e = 0; e < size; e++) {
                Entry other = entryAt(e);
                if (other != null && other.clashesWith(entry)) {
                    other.noteClash(size);
                }
            }
            entry.id = size;
            entries[size] = entry;
            size++;
            return entry.id;
        }

        /** A SPLIT or LENGTHENING by which the figures of the new BLOCK's set go to it. */
        int change(Entry old, Entry moved, int days) {
            int restSet = old.set & ~moved.set;
            int needed = 1 + (restSet != 0 ? 1 : 0) + (days > 0 ? 1 : 0);
            if (!hasRoomFor(needed)) {
                return FULL;
            }
            int day = moved.first;
            if (restSet != 0) {
                old.rest = new Entry(BLOCK, old.belongs, old.prefix, restSet, old.least, old.most, day);
                appendFrom(old, old.rest, old.end);
            }
            appendFrom(old, moved, old.end);
            if (days > 0) {
                Entry parked = new Entry(PARKED, moved.id, old.prefix, moved.set, old.least, old.most, day);
                parked.standsFor = moved;
                appendFrom(old, parked, old.end == NONE ? day + days : Math.min(day + days, old.end));
            }
            old.moved = moved;
            old.changeDay = day;
            old.end = day;
            return moved.id;
        }

        private void appendFrom(Entry old, Entry entry, int end) {
            entry.from = old.id;
            entry.end = end;
            append(entry);
        }

        int inForceOn(int day) {
            int found = 0;
            for (int e = 0; e < size; e++) {
                Entry entry = entryAt(e);
                if (entry != null && entry.isInForce(day)) {
                    found++;
                }
            }
            return found;
        }

        private void noteInForce(int day) {
            lowInForce = 0L;
            highInForce = 0L;
            for (int e = 0; e < size; e++) {
                Entry entry = entryAt(e);
                if (entry != null && entry.isInForce(day)) {
                    if (e < 64) {
                        lowInForce |= 1L << e;
                    } else {
                        highInForce |= 1L << (e - 64);
                    }
                }
            }
        }

        private int pairsOf(Entry entry) {
            return Long.bitCount(entry.lowClashes & lowInForce) + Long.bitCount(entry.highClashes & highInForce);
        }

        int pairsOn(int day) {
            noteInForce(day);
            int found = 0;
            for (int e = 0; e < size; e++) {
                Entry entry = entryAt(e);
                if (entry != null && entry.isInForce(day)) {
                    found += pairsOf(entry);
                }
            }
            return found;
        }

        int pairOn(int day, int i, int side) {
            noteInForce(day);
            int left = i;
            for (int e = 0; e < size; e++) {
                Entry entry = entryAt(e);
                if (entry != null && entry.isInForce(day)) {
                    int here = pairsOf(entry);
                    if (left < here) {
                        return side == 0 ? e : partnerOf(entry, left, day);
                    }
                    left -= here;
                }
            }
            return NONE;
        }

        private int partnerOf(Entry lesser, int i, int day) {
            int left = i;
            for (int e = lesser.id + 1; e < size; e++) {
                Entry entry = entryAt(e);
                if (entry != null && lesser.hasClash(e) && entry.isInForce(day)) {
                    if (left == 0) {
                        return e;
                    }
                    left--;
                }
            }
            return NONE;
        }

        /** The ENTRY to which figures LEAD on a day; null: none. */
        Entry leadOf(long told, int count, int day) {
            Entry best = null;
            for (int e = 0; e < size; e++) {
                Entry entry = entryAt(e);
                if (entry != null && entry.isInForce(day) && entry.hasNumber(told, count)) {
                    if (best == null || rankOf(entry.kind) < rankOf(best.kind)) {
                        best = entry;
                    }
                }
            }
            return best;
        }

        private static int rankOf(int kind) {
            switch (kind) {
                case SHORT:
                    return 0;
                case BLOCK:
                    return 1;
                case PARKED:
                    return 2;
                default:
                    return 3;
            }
        }

        Reading read(long told, int count, int day) {
            reading.clear();
            for (int e = 0; e < size; e++) {
                Entry entry = entryAt(e);
                if (entry != null && entry.isInForce(day) && entry.fits(told, count)) {
                    reading.add(entry, count);
                }
            }
            return reading;
        }

        long roomOf(int area, int day) {
            long found = 0L;
            for (int e = 0; e < size; e++) {
                Entry entry = blockAt(e);
                if (entry != null && entry.belongs == area) {
                    found += entry.roomOn(day);
                }
            }
            return found;
        }

        /** The first week behind this one in which an area may have another room; else the one behind the last. */
        int nextTurn(int area, int week) {
            int next = LAST_WEEK + 1;
            for (int e = 0; e < size; e++) {
                Entry entry = blockAt(e);
                if (entry != null && entry.belongs == area) {
                    next = sooner(next, weekBehind(entry.first), week);
                    next = entry.end == NONE ? next : sooner(next, weekBehind(entry.end), week);
                }
            }
            return next;
        }

        static int sooner(int next, int turn, int week) {
            return turn > week && turn < next ? turn : next;
        }

        boolean clashesOn(Entry block, int day) {
            for (int e = 0; e < size; e++) {
                Entry entry = entryAt(e);
                if (entry != null && entry.isInForce(day) && entry.clashesWith(block)) {
                    return true;
                }
            }
            return false;
        }
    }

    /** What all entries that dialled figures fit say of them; one is kept and used for every reading. */
    private static final class Reading {
        boolean whole;
        int next;
        int leastMore;
        int mostMore;

        void clear() {
            whole = false;
            next = 0;
            leastMore = NONE;
            mostMore = NONE;
        }

        void add(Entry entry, int count) {
            whole = whole || count >= entry.least;
            if (count < entry.most) {
                int more = Math.max(1, entry.least - count);
                leastMore = leastMore == NONE ? more : Math.min(leastMore, more);
                mostMore = Math.max(mostMore, entry.most - count);
                next |= entry.figuresAt(count);
            }
        }

        int answer() {
            if (whole) {
                return mostMore == NONE ? DONE : WAITS;
            }
            return mostMore == NONE ? WRONG : MORE;
        }
    }

    /** A carrier to which a LINE leads from a day on, and what was ahead of it. */
    private static final class Porting {
        final int carrier;
        final int day;
        final Porting before;

        Porting(int carrier, int day, Porting before) {
            this.carrier = carrier;
            this.day = day;
            this.before = before;
        }
    }

    private static final class Line {
        final Entry start;
        final int figures;
        final int head;
        final int first;
        int end;
        Porting latest;

        Line(Entry start, int figures, int first) {
            this.start = start;
            this.figures = figures;
            this.head = figureBit(figures, placesOf(figures), 0);
            this.first = first;
            this.end = NONE;
        }

        /** The BLOCK on which it is on a day; null: it has no NUMBER then. */
        Entry blockOn(int day) {
            if (start == null || day < first || (end != NONE && day >= end)) {
                return null;
            }
            return start.followedTo(head, day);
        }

        int carrierOn(int day) {
            Porting porting = latest;
            for (int step = 0; step < MOST_PORTINGS && porting != null; step++) {
                if (porting.day <= day) {
                    return porting.carrier;
                }
                porting = porting.before;
            }
            return NONE;
        }
    }

    /** The lines in the order in which they came. */
    private static final class Lines {
        final Line[] rows;
        int size;
        int portings;

        Lines() {
            rows = new Line[MOST_LINES];
            size = 0;
            portings = 0;
        }

        Line lineWith(int l) {
            return l >= 0 && l < size && l < rows.length ? rows[l] : null;
        }

        int append(Entry block, int figures, int day) {
            if (size >= rows.length) {
                return FULL;
            }
            rows[size] = new Line(block, figures, day);
            size++;
            return size - 1;
        }

        int portTo(Line line, int carrier, int day) {
            if (portings >= MOST_PORTINGS) {
                return FULL;
            }
            int before = line.carrierOn(day);
            line.latest = new Porting(carrier, day, line.latest);
            portings++;
            return before;
        }

        int findOn(Entry block, long figures, int day) {
            for (int l = 0; l < size; l++) {
                Line line = lineWith(l);
                if (line != null && line.figures == figures && line.blockOn(day) == block) {
                    return l;
                }
            }
            return NONE;
        }

        /** The LINE to which figures LEAD by the ENTRY of which they are a NUMBER. */
        int findBy(Entry entry, long told, int count, int day) {
            Entry block = entry.kind == BLOCK ? entry : entry.standsFor;
            if (block == null) {
                return NONE;
            }
            Entry there = block.followedTo(figureBit(told, count, entry.places), day);
            return there == null ? NONE : findOn(there, lastOf(told, count - entry.places), day);
        }

        int numberedOn(int day) {
            int found = 0;
            for (int l = 0; l < size; l++) {
                Line line = lineWith(l);
                if (line != null && line.blockOn(day) != null) {
                    found++;
                }
            }
            return found;
        }
    }

    private static final class Call {
        boolean begun;
        boolean over;
        int day;
        int answer;
        int places;
        long figures;

        void begin(int today) {
            begun = true;
            over = false;
            day = today;
            answer = NONE;
            places = 0;
            figures = 1L;
        }

        boolean isOpen() {
            return begun && !over;
        }

        void hear(int figure) {
            figures = figures * 10 + figure;
            places++;
        }
    }

    private static final class Demand {
        final int area;
        int first;
        int more;

        Demand(int area) {
            this.area = area;
        }

        long askedIn(int week) {
            return first + (long) more * week;
        }

        /** The first week, from one on, in which more are asked for; else the one behind the last. */
        int firstAbove(long there, int week) {
            if (askedIn(week) > there) {
                return week;
            }
            if (more <= 0) {
                return LAST_WEEK + 1;
            }
            return (int) Math.min(LAST_WEEK + 1, (there - first) / more + 1);
        }
    }

    private static final class Option {
        final Entry block;
        final int cost;

        Option(Entry block, int cost) {
            this.block = block;
            this.cost = cost;
        }
    }

    /** What areas ask for and have, by weeks, and the OPTIONS. */
    private static final class Supply {
        /** Each entry turns an area's room twice at most, and each OPTION once. */
        private static final int MOST_TURNS = 2 * MOST_ENTRIES + MOST_OPTIONS + 1;

        final Plan plan;
        final Demand[] demands;
        final Option[] options;
        int size;
        /** Stretches of weeks with one room: the first week of each, and what its last week lacks. */
        final int[] lackWeeks;
        final long[] lacks;
        int lackCount;

        Supply(Plan plan) {
            this.plan = plan;
            demands = new Demand[AREAS];
            for (int area = 0; area < AREAS; area++) {
                demands[area] = new Demand(area);
            }
            options = new Option[MOST_OPTIONS];
            lackWeeks = new int[MOST_TURNS];
            lacks = new long[MOST_TURNS];
        }

        Demand demandOf(int area) {
            return area >= 0 && area < demands.length ? demands[area] : null;
        }

        Option optionAt(int o) {
            return o >= 0 && o < size && o < options.length ? options[o] : null;
        }

        int offer(Option option) {
            if (size >= options.length) {
                return FULL;
            }
            options[size] = option;
            size++;
            return size - 1;
        }

        void withdraw(int o) {
            if (o < 0 || o >= size || size > options.length) {
                return;
            }
            for (int next = o + 1; next < size; next++) {
                options[next - 1] = options[next];
            }
            size--;
            options[size] = null;
        }

        int firstShort(Demand demand, int from) {
            int week = from;
            while (week <= LAST_WEEK) {
                int next = plan.nextTurn(demand.area, week);
                int first = demand.firstAbove(plan.roomOf(demand.area, WEEK * week), week);
                if (first < next) {
                    return first;
                }
                week = Math.max(week + 1, next);
            }
            return NONE;
        }

        int cheapestRelief(Demand demand, int w, int clock) {
            int shortage = firstShort(demand, clock / WEEK);
            if (shortage == NONE) {
                return NONE;
            }
            noteLacks(demand, shortage, Math.min(LAST_WEEK, shortage + w - 1));
            int usable = usableFor(demand.area, clock);
            int best = NONE;
            int bestCost = 0;
            for (int set = 1; set < 1 << size; set++) {
                if ((set & ~usable) == 0) {
                    int cost = costOf(set);
                    if ((best == NONE || cost < bestCost) && plan.hasRoomFor(Integer.bitCount(set))
                        && coversLacks(set) && isWithoutPair(set)) {
                        best = set;
                        bestCost = cost;
                    }
                }
            }
            return best;
        }

        /** What the weeks lack that a RELIEF has to cover: demand never falls, so a stretch's last week decides. */
        private void noteLacks(Demand demand, int from, int last) {
            lackCount = 0;
            int week = from;
            while (week <= last) {
                int next = nextTurnWithOptions(demand.area, week);
                long lack = demand.askedIn(Math.min(last, next - 1)) - plan.roomOf(demand.area, WEEK * week);
                if (lack > 0 && lackCount < lacks.length && lackCount < lackWeeks.length) {
                    lackWeeks[lackCount] = week;
                    lacks[lackCount] = lack;
                    lackCount++;
                }
                week = Math.max(week + 1, next);
            }
        }

        private int nextTurnWithOptions(int area, int week) {
            int next = plan.nextTurn(area, week);
            for (int o = 0; o < size; o++) {
                Option option = optionAt(o);
                if (option != null) {
                    next = Plan.sooner(next, weekBehind(option.block.first), week);
                }
            }
            return next;
        }

        /** An OPTION of another area only adds cost, or at least a bit, so the least set never has one. */
        private int usableFor(int area, int clock) {
            int bits = 0;
            for (int o = 0; o < size; o++) {
                Option option = optionAt(o);
                if (option != null && option.block.belongs == area && option.block.first >= clock
                    && !plan.clashesOn(option.block, option.block.first)) {
                    bits |= 1 << o;
                }
            }
            return bits;
        }

        private int costOf(int set) {
            int cost = 0;
            for (int o = 0; o < size; o++) {
                Option option = optionAt(o);
                if (option != null && (set >> o & 1) != 0) {
                    cost += option.cost;
                }
            }
            return cost;
        }

        /** Of two OPTIONS one is in force on the other's first day, as none of them ends. */
        private boolean isWithoutPair(int set) {
            for (int o = 0; o < size; o++) {
                Option one = optionAt(o);
                for (int p = o + 1; p < size; p++) {
                    Option other = optionAt(p);
                    if (one != null && other != null && (set >> o & 1) != 0 && (set >> p & 1) != 0
                        && one.block.clashesWith(other.block)) {
                        return false;
                    }
                }
            }
            return true;
        }

        private boolean coversLacks(int set) {
            for (int i = 0; i < lackCount && i < lacks.length && i < lackWeeks.length; i++) {
                if (roomBy(set, WEEK * lackWeeks[i]) < lacks[i]) {
                    return false;
                }
            }
            return true;
        }

        private long roomBy(int set, int day) {
            long found = 0L;
            for (int o = 0; o < size; o++) {
                Option option = optionAt(o);
                if (option != null && (set >> o & 1) != 0) {
                    found += option.block.roomOn(day);
                }
            }
            return found;
        }
    }
}
