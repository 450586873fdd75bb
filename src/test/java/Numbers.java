import java.util.BitSet;

/** The NUMBERS of one entry of the slow desk, as the document's words tell them. */
abstract class Numbers {
    final String prefix;
    final int set;
    final int least;
    final int most;

    Numbers(String prefix, int set, int least, int most) {
        this.prefix = prefix;
        this.set = set;
        this.least = least;
        this.most = most;
    }

    abstract boolean has(String figures);

    /** Whether one of so many figures more begins with these. */
    abstract boolean hasLonger(String figures, int more);

    abstract boolean pairsWith(Numbers other);

    abstract long size();

    /** Whether a figure can come at a place. */
    boolean allows(int place, char figure) {
        if (place < prefix.length()) {
            return prefix.charAt(place) == figure;
        }
        return place > prefix.length() || set == 0 || (set >> (figure - '0') & 1) == 1;
    }

    /** Every NUMBER as a bit, by the number with a 1 ahead: for five figures at most. */
    static final class Listed extends Numbers {
        private static final int LIMIT = 200000;
        private static final int FIGURES = 5;
        private final BitSet all = new BitSet(LIMIT);
        private final BitSet beginnings = new BitSet(LIMIT);
        private final long size;

        Listed(String prefix, int set, int least, int most) {
            super(prefix, set, least, most);
            extend(prefix);
            for (int n = all.nextSetBit(0); n >= 0; n = all.nextSetBit(n + 1)) {
                for (int b = n; b >= 1; b /= 10) {
                    beginnings.set(b);
                }
            }
            size = all.cardinality();
        }

        private void extend(String figures) {
            if (figures.length() >= least) {
                all.set(Integer.parseInt("1" + figures));
            }
            for (char c = '0'; c <= '9' && figures.length() < most; c++) {
                if (allows(figures.length(), c)) {
                    extend(figures + c);
                }
            }
        }

        @Override
        boolean has(String figures) {
            return figures.length() <= FIGURES && all.get(Integer.parseInt("1" + figures));
        }

        @Override
        boolean hasLonger(String figures, int more) {
            if (figures.length() + more > FIGURES) {
                return false;
            }
            int low = Integer.parseInt("1" + figures + "0".repeat(more));
            int high = Integer.parseInt("1" + figures + "9".repeat(more));
            int found = all.nextSetBit(low);
            return found >= 0 && found <= high;
        }

        @Override
        boolean pairsWith(Numbers other) {
            return other instanceof Listed o && (all.intersects(o.beginnings) || o.all.intersects(beginnings));
        }

        @Override
        long size() {
            return size;
        }
    }

    /** Told place by place, for NUMBERS that are too many to be listed. */
    static final class Spelled extends Numbers {
        private final long size;

        Spelled(String prefix, int set, int least, int most) {
            super(prefix, set, least, most);
            long found = 0;
            for (int length = least; length <= most; length++) {
                found += sizeOf(length);
            }
            size = found;
        }

        private long sizeOf(int length) {
            long found = 1;
            for (int place = 0; place < length; place++) {
                int here = 0;
                for (char c = '0'; c <= '9'; c++) {
                    here += allows(place, c) ? 1 : 0;
                }
                found *= here;
            }
            return found;
        }

        private boolean begins(String figures) {
            for (int place = 0; place < figures.length(); place++) {
                if (!allows(place, figures.charAt(place))) {
                    return false;
                }
            }
            return true;
        }

        private boolean hasLength(int length) {
            return length >= least && length <= most;
        }

        @Override
        boolean has(String figures) {
            return hasLength(figures.length()) && begins(figures);
        }

        @Override
        boolean hasLonger(String figures, int more) {
            return hasLength(figures.length() + more) && begins(figures);
        }

        @Override
        boolean pairsWith(Numbers other) {
            for (int own = least; own <= most; own++) {
                for (int its = other.least; its <= other.most; its++) {
                    if (agree(other, Math.min(own, its))) {
                        return true;
                    }
                }
            }
            return false;
        }

        private boolean agree(Numbers other, int places) {
            for (int place = 0; place < places; place++) {
                boolean shared = false;
                for (char c = '0'; c <= '9'; c++) {
                    shared = shared || (allows(place, c) && other.allows(place, c));
                }
                if (!shared) {
                    return false;
                }
            }
            return true;
        }

        @Override
        long size() {
            return size;
        }
    }
}
