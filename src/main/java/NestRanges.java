/**
 * Ranges of a text that lie across one another, made into one tree with the fewest splits.
 * The terms (range, rank, cut, section, stack, nest, node, edit) are those of the document.
 */
public final class NestRanges {
    public static final int NONE = -1, BAD = -2, NO = -3, FULL = -4;

    private static final int MOST_PLACES = 90;
    private static final int FIRST_PLACES = 40;
    private static final int MOST_RANGES = 8;
    private static final int KINDS = 4;
    private static final int MOST_OVER = 5;
    private static final int MOST_CUTS = 16;
    private static final int MOST_SECTIONS = 15;
    private static final int MOST_STACKS = 120;
    private static final int MOST_NODES = MOST_SECTIONS * MOST_OVER + MOST_RANGES;
    private static final int MOST_EDITS = 12;
    private static final int MOST_WAYS = 1000000000;
    private static final int MOST_SEED = 999999;
    private static final int MORE_THAN_ANY_SPLITS = 1000000;

    private final Text now = new Text();
    private final Text trial = new Text();
    private final History past = new History();
    private final Weights weights = new Weights();
    private final Sections side = new Sections();
    private final Nest nest = new Nest();
    private boolean nestStands = false;
    private int bads = 0;
    private int nos = 0;
    private int fulls = 0;

    public NestRanges() {
    }

    // ---- edits

    public int anew(int l) {
        if (l < 0 || l > MOST_PLACES) return refuseBad();
        int before = now.count;
        now.clear(l);
        past.forget();
        nestStands = false;
        return before;
    }

    public int range(int kind, int a, int b) {
        if (!Text.isKindNumber(kind) || !now.holds(a, b)) return refuseBad();
        trial.copy(now);
        if (!trial.append(kind, a, b) || trial.isCrowded()) return refuseFull();
        settle();
        return now.count - 1;
    }

    public int drop(int r) {
        if (!now.has(r)) return refuseBad();
        trial.copy(now);
        trial.remove(r);
        settle();
        return now.count;
    }

    public int moves(int r, int a, int b) {
        if (!now.has(r) || !now.holds(a, b)) return refuseBad();
        trial.copy(now);
        trial.lay(r, a, b);
        if (trial.isCrowded()) return refuseFull();
        int before = now.ends[r] - now.begins[r];
        settle();
        return b - a - before;
    }

    public int kind(int r, int kind) {
        if (!now.has(r) || !Text.isKindNumber(kind)) return refuseBad();
        int before = now.kinds[r];
        trial.copy(now);
        trial.kinds[r] = kind;
        settle();
        return before;
    }

    public int rank(int kind, int rank) {
        if (!Text.isKindNumber(kind) || rank < 0 || rank >= KINDS) return refuseBad();
        int before = now.ranks[kind];
        trial.copy(now);
        trial.ranks[kind] = rank;
        settle();
        return before;
    }

    public int puts(int p, int n) {
        if (p < 0 || p > now.length || n < 1 || n > MOST_PLACES) return refuseBad();
        if (now.length + n > MOST_PLACES) return refuseFull();
        trial.copy(now);
        trial.putIn(p, n);
        settle();
        return now.length;
    }

    public int takes(int p, int q) {
        if (p < 0 || q <= p || q > now.length) return refuseBad();
        trial.copy(now);
        trial.takeOut(p, q);
        settle();
        return now.length;
    }

    public int joins(int kind) {
        if (!Text.isKindNumber(kind)) return refuseBad();
        trial.copy(now);
        for (int r = 0; r < trial.count && r < MOST_RANGES; r++) {
            if (trial.kinds[r] == kind) trial.gatherInto(r);
        }
        int dropped = now.count - trial.count;
        settle();
        return dropped;
    }

    public int splits(int kind) {
        if (!Text.isKindNumber(kind)) return refuseBad();
        makeNest();
        int coming = 0;
        for (int r = 0; r < now.count && r < MOST_RANGES; r++) {
            if (now.kinds[r] == kind) coming += Math.max(0, nest.piecesOf(r) - 1);
        }
        if (now.count + coming > MOST_RANGES) return refuseFull();
        trial.copy(now);
        for (int r = 0; r < now.count && r < MOST_RANGES; r++) {
            if (now.kinds[r] == kind) nest.breakUp(r, trial);
        }
        settle();
        return coming;
    }

    public int undo() {
        if (!past.takeBack(now)) {
            nos++;
            return NO;
        }
        nestStands = false;
        return past.count;
    }

    // ---- ranges

    public int of(int r, int what) {
        if (!now.has(r)) return refuseBad();
        switch (what) {
            case 0: return now.kinds[r];
            case 1: return now.begins[r];
            case 2: return now.ends[r];
            case 3:
                makeNest();
                return nest.piecesOf(r);
            case 4: return now.howManyAcross(r);
            default: return refuseBad();
        }
    }

    public int over(int p) {
        if (p < 0 || p >= now.length) return refuseBad();
        return now.coverAt(p);
    }

    public int section(int s, int what) {
        makeNest();
        if (!nest.sections.has(s)) return refuseBad();
        switch (what) {
            case 0: return nest.sections.cuts[s];
            case 1: return nest.sections.cuts[s + 1];
            case 2: return Integer.bitCount(nest.sections.covers[s]);
            default: return refuseBad();
        }
    }

    public int stack(int s, int k) {
        makeNest();
        if (!nest.sections.has(s) || k < 0) return refuseBad();
        return Stack.at(nest.chosen[s], k);
    }

    // ---- the nest

    public int least() {
        makeNest();
        return nest.fewest;
    }

    public int ways() {
        makeNest();
        return nest.asFew;
    }

    public int plain() {
        makeNest();
        return nest.plainSplits;
    }

    public int free() {
        return fewestWithout(NONE, true);
    }

    public int without(int what) {
        if (what < 0 || what > 1) return refuseBad();
        int which = NONE;
        int fewest = NONE;
        for (int r = 0; r < now.count && r < MOST_RANGES; r++) {
            int left = fewestWithout(r, false);
            if (which == NONE || left < fewest) {
                which = r;
                fewest = left;
            }
        }
        return what == 0 ? which : fewest;
    }

    public int nodes() {
        makeNest();
        return nest.size;
    }

    public int node(int k, int what) {
        if (k < 0 || what < 0 || what > 4) return refuseBad();
        makeNest();
        if (k >= nest.size) return NONE;
        switch (what) {
            case 0: return nest.ranges[k];
            case 1: return nest.begins[k];
            case 2: return nest.ends[k];
            case 3: return nest.depths[k];
            default: return nest.outers[k];
        }
    }

    public int all(int what) {
        if (what < 0 || what > 4) return refuseBad();
        makeNest();
        switch (what) {
            case 0: return nest.greatestDepth();
            case 1: return nest.depthsTogether();
            case 2: return nest.howManyEmpty();
            case 3: return nest.longest();
            default: return nest.howManyInNone();
        }
    }

    // ---- drawn

    public int draw(int seed, int n) {
        if (seed < 0 || seed > MOST_SEED || n < 0 || n > MOST_RANGES) return refuseBad();
        trial.copy(now);
        trial.count = 0;
        long x = seed;
        for (int i = 0; i < n; i++) {
            x = (x * 1103515245L + 12345L) % 2147483648L;
            int one = trial.placeBy(x / 1024);
            int other = trial.placeBy(x / 32768);
            int kind = (int) (x / 65536 % KINDS);
            trial.append(kind, Math.min(one, other), Math.max(one, other));
            if (trial.isCrowded()) trial.remove(trial.count - 1);
        }
        settle();
        return now.count;
    }

    public int told(int what) {
        switch (what) {
            case 0: return bads;
            case 1: return nos;
            case 2: return fulls;
            case 3: return now.count;
            case 4: return now.length;
            case 5:
                makeNest();
                return nest.sections.size;
            case 6: return past.count;
            case 7: return now.ranksAsOne();
            default: return refuseBad();
        }
    }

    public long digest() {
        long h = 1951;
        for (int what = 0; what <= 7; what++) h = 31 * h + told(what);
        for (int r = 0; r < now.count && r < MOST_RANGES; r++) {
            h = 31 * h + now.kinds[r];
            h = 31 * h + now.begins[r];
            h = 31 * h + now.ends[r];
        }
        h = 31 * h + least();
        return 31 * h + nodes();
    }

    // ---- what the calls share

    private int refuseBad() {
        bads++;
        return BAD;
    }

    private int refuseFull() {
        fulls++;
        return FULL;
    }

    /** The trial becomes what is now, and what was can be brought back. */
    private void settle() {
        past.keep(now);
        now.copy(trial);
        nestStands = false;
    }

    private void makeNest() {
        if (nestStands) return;
        nest.sections.cut(now, NONE);
        weights.weigh(now, nest.sections, false);
        nest.fewest = weights.fewest;
        nest.asFew = weights.asFew;
        nest.plainSplits = weights.splitsOfFirst(nest.sections);
        weights.choose(nest.sections, nest.chosen);
        nest.layNodes(now);
        nestStands = true;
    }

    /** The nest's splits without one range (NONE: with all), by ranks or as if all were 0. */
    private int fewestWithout(int skipped, boolean ranksAlike) {
        side.cut(now, skipped);
        weights.weigh(now, side, ranksAlike);
        return weights.fewest;
    }

    /** A length, ranges and ranks: all that an edit changes and an undo brings back. */
    static final class Text {
        final int[] kinds = new int[MOST_RANGES];
        final int[] begins = new int[MOST_RANGES];
        final int[] ends = new int[MOST_RANGES];
        final int[] ranks = new int[KINDS];
        int count = 0;
        int length = 0;

        Text() {
            clear(FIRST_PLACES);
        }

        void clear(int places) {
            count = 0;
            length = places;
            for (int k = 0; k < KINDS; k++) ranks[k] = k;
        }

        void copy(Text from) {
            count = from.count;
            length = from.length;
            for (int r = 0; r < MOST_RANGES; r++) {
                kinds[r] = from.kinds[r];
                begins[r] = from.begins[r];
                ends[r] = from.ends[r];
            }
            for (int k = 0; k < KINDS; k++) ranks[k] = from.ranks[k];
        }

        static boolean isKindNumber(int kind) {
            return kind >= 0 && kind < KINDS;
        }

        boolean has(int r) {
            return r >= 0 && r < count && r < MOST_RANGES;
        }

        boolean holds(int a, int b) {
            return a >= 0 && a <= b && b <= length;
        }

        boolean isEmpty(int r) {
            return !has(r) || begins[r] == ends[r];
        }

        /** By which rank a range stands in stacks. */
        int rankOf(int r) {
            if (!has(r)) return 0;
            int kind = kinds[r];
            return isKindNumber(kind) ? ranks[kind] : 0;
        }

        int ranksAsOne() {
            int one = 0;
            for (int k = 0; k < KINDS; k++) one = 10 * one + ranks[k];
            return one;
        }

        int coverAt(int p) {
            int bits = 0;
            for (int r = 0; r < count && r < MOST_RANGES; r++) {
                if (begins[r] <= p && p < ends[r]) bits |= 1 << r;
            }
            return bits;
        }

        /** Looking where ranges begin is enough: nowhere else do more of them come to lie over a place. */
        boolean isCrowded() {
            for (int r = 0; r < count && r < MOST_RANGES; r++) {
                if (Integer.bitCount(coverAt(begins[r])) > MOST_OVER) return true;
            }
            return false;
        }

        int howManyAcross(int r) {
            int many = 0;
            for (int q = 0; q < count && q < MOST_RANGES; q++) {
                if (isAcross(r, q) || isAcross(q, r)) many++;
            }
            return many;
        }

        private boolean isAcross(int first, int second) {
            if (!has(first) || !has(second)) return false;
            return begins[first] < begins[second] && begins[second] < ends[first] && ends[first] < ends[second];
        }

        boolean append(int kind, int a, int b) {
            if (count < 0 || count >= MOST_RANGES) return false;
            kinds[count] = kind;
            begins[count] = a;
            ends[count] = b;
            count++;
            return true;
        }

        void lay(int r, int a, int b) {
            if (!has(r)) return;
            begins[r] = a;
            ends[r] = b;
        }

        void remove(int r) {
            if (!has(r)) return;
            for (int q = r; q + 1 < count && q + 1 < MOST_RANGES; q++) {
                kinds[q] = kinds[q + 1];
                begins[q] = begins[q + 1];
                ends[q] = ends[q + 1];
            }
            count--;
        }

        void putIn(int p, int n) {
            length += n;
            for (int r = 0; r < count && r < MOST_RANGES; r++) {
                boolean beginsBehind = begins[r] > p || (begins[r] == p && !isEmpty(r));
                if (beginsBehind) begins[r] += n;
                if (ends[r] > p) ends[r] += n;
            }
        }

        void takeOut(int p, int q) {
            length -= q - p;
            for (int r = 0; r < count && r < MOST_RANGES; r++) {
                begins[r] = afterTaking(begins[r], p, q);
                ends[r] = afterTaking(ends[r], p, q);
            }
        }

        private static int afterTaking(int place, int p, int q) {
            if (place >= q) return place - (q - p);
            return Math.min(place, p);
        }

        /** Range r takes in all of its kind behind it that hang together with it. */
        void gatherInto(int r) {
            if (isEmpty(r)) return;
            for (int round = 0; round < MOST_RANGES; round++) {
                for (int q = Math.min(count, MOST_RANGES) - 1; q > r; q--) {
                    if (hangTogether(r, q)) {
                        lay(r, Math.min(begins[r], begins[q]), Math.max(ends[r], ends[q]));
                        remove(q);
                    }
                }
            }
        }

        private boolean hangTogether(int r, int q) {
            if (isEmpty(r) || isEmpty(q) || kinds[r] != kinds[q]) return false;
            return begins[r] <= ends[q] && begins[q] <= ends[r];
        }

        int placeBy(long number) {
            long places = length + 1L;
            return places < 1 ? 0 : (int) (number % places);
        }
    }

    /** What was ahead of the last edits; the oldest gives way to the newest. */
    static final class History {
        private final Text[] kept = new Text[MOST_EDITS];
        private int next = 0;
        int count = 0;

        History() {
            for (int i = 0; i < MOST_EDITS; i++) kept[i] = new Text();
        }

        void forget() {
            count = 0;
        }

        void keep(Text text) {
            if (next < 0 || next >= MOST_EDITS) next = 0;
            kept[next].copy(text);
            next = (next + 1) % MOST_EDITS;
            if (count < MOST_EDITS) count++;
        }

        boolean takeBack(Text into) {
            if (count <= 0) return false;
            next = next <= 0 ? MOST_EDITS - 1 : next - 1;
            if (next >= MOST_EDITS) return false;
            into.copy(kept[next]);
            count--;
            return true;
        }
    }

    /**
     * A stack as one number, so that all stacks of a section fit in one row: four bits a range,
     * the outermost in the lowest, each the range's number and 1 (0: no more ranges).
     */
    static final class Stack {
        private Stack() {
        }

        static int at(int stack, int k) {
            if (k < 0 || k >= MOST_OVER) return NONE;
            return ((stack >> (4 * k)) & 15) - 1;
        }

        static int with(int stack, int k, int r) {
            if (k < 0 || k >= MOST_OVER) return stack;
            return stack | ((r + 1) << (4 * k));
        }

        /** With how many ranges both begin alike. */
        static int alike(int one, int other) {
            for (int k = 0; k < MOST_OVER; k++) {
                int r = at(one, k);
                if (r == NONE || r != at(other, k)) return k;
            }
            return MOST_OVER;
        }
    }

    /** The cuts of ranges that are not empty, and which ranges cover the sections between. */
    static final class Sections {
        final int[] cuts = new int[MOST_CUTS];
        final int[] covers = new int[MOST_SECTIONS];
        /** How many ranges cover both a section and the next one. */
        final int[] shared = new int[MOST_SECTIONS];
        private int cutCount = 0;
        int size = 0;

        boolean has(int s) {
            return s >= 0 && s < size && s < MOST_SECTIONS;
        }

        boolean isCut(int c, int place) {
            return c >= 0 && c < cutCount && c < MOST_CUTS && cuts[c] == place;
        }

        void cut(Text text, int skipped) {
            cutCount = 0;
            for (int r = 0; r < text.count && r < MOST_RANGES; r++) {
                if (r != skipped && !text.isEmpty(r)) {
                    addCut(text.begins[r]);
                    addCut(text.ends[r]);
                }
            }
            size = Math.max(0, cutCount - 1);
            cover(text, skipped);
        }

        private void addCut(int place) {
            int at = 0;
            while (at < cutCount && at < MOST_CUTS && cuts[at] < place) at++;
            if (at < cutCount && at < MOST_CUTS && cuts[at] == place) return;
            if (at > cutCount || cutCount >= MOST_CUTS) return;
            for (int i = cutCount; i > at; i--) cuts[i] = cuts[i - 1];
            cuts[at] = place;
            cutCount++;
        }

        private void cover(Text text, int skipped) {
            int others = skipped < 0 ? -1 : ~(1 << skipped);
            for (int s = 0; s < size && s < MOST_SECTIONS; s++) {
                covers[s] = text.coverAt(cuts[s]) & others;
                shared[s] = 0;
                if (s > 0) shared[s - 1] = Integer.bitCount(covers[s - 1] & covers[s]);
            }
        }
    }

    /**
     * All stacks of each section, with the fewest splits from there to the end and in how many
     * ways they come about. One object serves all calls: its rows are too big to be made anew.
     */
    static final class Weights {
        private final int[][] stacks = new int[MOST_SECTIONS][MOST_STACKS];
        private final int[][] costs = new int[MOST_SECTIONS][MOST_STACKS];
        /** Only those of a section and of the next one are needed: two rows by turns. */
        private final int[][] manners = new int[2][MOST_STACKS];
        private final int[] counts = new int[MOST_SECTIONS];
        private final int[] ranks = new int[MOST_RANGES];
        private int shared = 0;
        int fewest = 0;
        int asFew = 1;

        void weigh(Text text, Sections sections, boolean ranksAlike) {
            for (int r = 0; r < MOST_RANGES; r++) ranks[r] = ranksAlike ? 0 : text.rankOf(r);
            int size = Math.min(sections.size, MOST_SECTIONS);
            for (int s = size - 1; s >= 0; s--) {
                counts[s] = 0;
                addStacks(s, sections.covers[s], 0, 0);
                boolean last = s + 1 >= size;
                setAll(s, last ? 0 : MORE_THAN_ANY_SPLITS, last ? 1 : 0);
                shared = sections.shared[s];
                if (!last) offerAlike(s, 0, 0, counts[s], 0, counts[s + 1]);
            }
            fewest = size == 0 ? 0 : cheapest(0, 0, counts[0]);
            asFew = size == 0 ? 1 : mannersOf(0, 0, counts[0], fewest);
        }

        /** Of those that may be next the lower number goes first, so the stacks come rising. */
        private void addStacks(int s, int left, int depth, int stack) {
            if (left == 0) {
                addStack(s, stack);
                return;
            }
            if (depth >= MOST_OVER) return;
            int rank = outermostRank(left);
            for (int r = 0; r < MOST_RANGES; r++) {
                int bit = 1 << r;
                if ((left & bit) != 0 && ranks[r] == rank) {
                    addStacks(s, left & ~bit, depth + 1, Stack.with(stack, depth, r));
                }
            }
        }

        private void addStack(int s, int stack) {
            int i = counts[s];
            if (i < 0 || i >= MOST_STACKS) return;
            stacks[s][i] = stack;
            counts[s] = i + 1;
        }

        private int outermostRank(int left) {
            int rank = KINDS;
            for (int r = 0; r < MOST_RANGES; r++) {
                if ((left & (1 << r)) != 0) rank = Math.min(rank, ranks[r]);
            }
            return rank;
        }

        private void setAll(int s, int cost, int many) {
            for (int i = 0; i < counts[s]; i++) {
                costs[s][i] = cost;
                manners[s & 1][i] = many;
            }
        }

        /**
         * Stacks lo .. hi of section s and stacks from .. to of the next one all begin alike for
         * depth ranges. A pair that is alike for longer is offered again deeper, where it costs
         * less, so what a stack ends with is true, and no pair counts twice in it.
         */
        private void offerAlike(int s, int depth, int lo, int hi, int from, int to) {
            if (depth > MOST_OVER || s < 0 || s + 1 >= MOST_SECTIONS) return;
            int cost = cheapest(s + 1, from, to);
            int many = mannersOf(s + 1, from, to, cost);
            for (int i = lo; i < hi; i++) offer(s, i, cost + shared - depth, many);
            int i = lo;
            int j = from;
            for (int step = 0; step < 2 * MOST_STACKS && i < hi && j < to; step++) {
                int one = Stack.at(stacks[s][i], depth);
                int other = Stack.at(stacks[s + 1][j], depth);
                int iEnd = endOfLike(s, i, hi, depth);
                int jEnd = endOfLike(s + 1, j, to, depth);
                if (one == other && one != NONE) offerAlike(s, depth + 1, i, iEnd, j, jEnd);
                if (one <= other) i = iEnd;
                if (other <= one) j = jEnd;
            }
        }

        private void offer(int s, int i, int cost, int many) {
            int[] manner = manners[s & 1];
            if (cost < costs[s][i]) {
                costs[s][i] = cost;
                manner[i] = many;
            } else if (cost == costs[s][i]) {
                manner[i] = Math.min(MOST_WAYS, manner[i] + many);
            }
        }

        /** Behind the last of the stacks i .. hi that have the same range at a depth as stack i. */
        private int endOfLike(int s, int i, int hi, int depth) {
            int r = Stack.at(stacks[s][i], depth);
            int end = i + 1;
            while (end < hi && Stack.at(stacks[s][end], depth) == r) end++;
            return end;
        }

        private int cheapest(int s, int from, int to) {
            int cost = MORE_THAN_ANY_SPLITS;
            for (int i = from; i < to; i++) cost = Math.min(cost, costs[s][i]);
            return cost;
        }

        private int mannersOf(int s, int from, int to, int cost) {
            int[] manner = manners[s & 1];
            int many = 0;
            for (int i = from; i < to; i++) {
                if (costs[s][i] == cost) many = Math.min(MOST_WAYS, many + manner[i]);
            }
            return many;
        }

        /** The least stack, section by section, with which the fewest splits can still be had. */
        void choose(Sections sections, int[] chosen) {
            int left = fewest;
            int size = Math.min(sections.size, chosen.length);
            for (int s = 0; s < size; s++) {
                for (int i = 0; i < counts[s]; i++) {
                    int before = s == 0 ? 0 : sections.shared[s - 1] - Stack.alike(chosen[s - 1], stacks[s][i]);
                    if (before + costs[s][i] == left) {
                        chosen[s] = stacks[s][i];
                        left = costs[s][i];
                        break;
                    }
                }
            }
        }

        /** The splits, if each section has its least stack. */
        int splitsOfFirst(Sections sections) {
            int all = 0;
            for (int s = 0; s + 1 < sections.size && s + 1 < MOST_SECTIONS; s++) {
                all += sections.shared[s] - Stack.alike(stacks[s][0], stacks[s + 1][0]);
            }
            return all;
        }
    }

    /** THE NEST: a stack for each section, and the nodes that follow from them. */
    static final class Nest {
        final Sections sections = new Sections();
        final int[] chosen = new int[MOST_SECTIONS];
        final int[] ranges = new int[MOST_NODES];
        final int[] begins = new int[MOST_NODES];
        final int[] ends = new int[MOST_NODES];
        final int[] depths = new int[MOST_NODES];
        final int[] outers = new int[MOST_NODES];
        /** The nodes of the stack that is being gone through, outermost first. */
        private final int[] open = new int[MOST_OVER];
        int size = 0;
        int fewest = 0;
        int asFew = 1;
        int plainSplits = 0;

        /** Place by place, as nodes come by where they begin. */
        void layNodes(Text text) {
            size = 0;
            int deep = 0;
            int c = 0;
            for (int place = 0; place <= text.length; place++) {
                boolean isCut = sections.isCut(c, place);
                if (isCut) deep = goingOnAt(c);
                addEmptyOnes(text, place, deep);
                if (isCut) {
                    deep = addPieces(c, deep);
                    c++;
                }
            }
        }

        /** How many pieces go on across a cut. */
        private int goingOnAt(int c) {
            if (!sections.has(c - 1) || !sections.has(c)) return 0;
            return Stack.alike(chosen[c - 1], chosen[c]);
        }

        private void addEmptyOnes(Text text, int place, int deep) {
            for (int r = 0; r < text.count && r < MOST_RANGES; r++) {
                if (text.isEmpty(r) && text.begins[r] == place) addNode(r, place, place, deep);
            }
        }

        /** Goes over section s, the outermost of whose pieces are open already: how deep it is. */
        private int addPieces(int s, int goingOn) {
            if (!sections.has(s)) return 0;
            int begin = sections.cuts[s];
            int end = sections.cuts[s + 1];
            int deep = Integer.bitCount(sections.covers[s]);
            for (int k = 0; k < deep && k < MOST_OVER; k++) {
                if (k >= goingOn) open[k] = addNode(Stack.at(chosen[s], k), begin, end, k);
                stretch(open[k], end);
            }
            return deep;
        }

        private void stretch(int k, int end) {
            if (k >= 0 && k < size) ends[k] = end;
        }

        private int addNode(int r, int begin, int end, int deep) {
            if (size < 0 || size >= MOST_NODES) return NONE;
            ranges[size] = r;
            begins[size] = begin;
            ends[size] = end;
            depths[size] = deep;
            outers[size] = deep > 0 && deep <= MOST_OVER ? open[deep - 1] : NONE;
            size++;
            return size - 1;
        }

        private boolean isPiece(int k) {
            return begins[k] < ends[k];
        }

        int piecesOf(int r) {
            int many = 0;
            for (int k = 0; k < size; k++) {
                if (ranges[k] == r && isPiece(k)) many++;
            }
            return many;
        }

        /** Range r becomes its first piece; its others come behind all ranges. */
        void breakUp(int r, Text text) {
            if (!text.has(r)) return;
            boolean first = true;
            for (int k = 0; k < size; k++) {
                if (ranges[k] != r || !isPiece(k)) continue;
                if (first) text.lay(r, begins[k], ends[k]);
                else text.append(text.kinds[r], begins[k], ends[k]);
                first = false;
            }
        }

        int greatestDepth() {
            int greatest = 0;
            for (int k = 0; k < size; k++) greatest = Math.max(greatest, depths[k]);
            return greatest;
        }

        int depthsTogether() {
            int together = 0;
            for (int k = 0; k < size; k++) together += depths[k];
            return together;
        }

        int howManyEmpty() {
            int many = 0;
            for (int k = 0; k < size; k++) {
                if (!isPiece(k)) many++;
            }
            return many;
        }

        int longest() {
            int longest = 0;
            for (int k = 0; k < size; k++) longest = Math.max(longest, ends[k] - begins[k]);
            return longest;
        }

        int howManyInNone() {
            int many = 0;
            for (int k = 0; k < size; k++) {
                if (depths[k] == 0) many++;
            }
            return many;
        }
    }
}
