/**
 * Carries the marks of one sentence, the SOURCE, into another one, the TARGET.
 * Words in capitals are those of the document.
 */
public final class TagCarrier {
    public static final int NONE = -6, UNKNOWN = -1, OUTSIDE = -2, STATE = -3, FULL = -4, NO = -5;

    private static final int PAD_SIGNS = 30;
    private static final int FIRST_CODE = 33;
    private static final int LAST_CODE = 126;
    private static final int SOURCE_WORDS = 12;
    private static final int TARGET_WORDS = 8;
    private static final int PAIRS = 5;
    private static final int MARKS = 3;
    private static final int IMAGES = 2;

    private static final int FIRST_LINKED = 2;
    private static final int NOTE = 4;

    private static final int GAPS = TARGET_WORDS + 1;
    private static final int SPANS = GAPS * GAPS;
    private static final int PAIR_SETS = 1 << PAIRS;
    private static final int WRITTEN_SIGNS = TARGET_WORDS + 2 * PAIRS + MARKS;

    private static final int TOLD_LINKS = 10;

    /** More than any sum of COSTS, and far enough below the greatest number to be added to. */
    private static final int TOO_MUCH = 1 << 20;

    private final Pad pad;
    private final Sentences now;
    private final Sentences[] images;
    private final Wanted wanted;
    private final PairPlacer pairPlacer;
    private final MarkPlacer markPlacer;
    private final Writer writer;
    private boolean stale;

    public TagCarrier() {
        pad = new Pad();
        now = new Sentences();
        images = new Sentences[IMAGES];
        wanted = new Wanted();
        pairPlacer = new PairPlacer();
        markPlacer = new MarkPlacer();
        writer = new Writer();
        stale = true;
    }

    // ---- 1 sentences

    public int say(int sign) {
        if (sign < FIRST_CODE || sign > LAST_CODE) {
            return OUTSIDE;
        }
        return pad.add(sign) ? pad.count : FULL;
    }

    public int wipe() {
        int before = pad.count;
        pad.count = 0;
        return before;
    }

    public int fault() {
        return pad.read();
    }

    public int load() {
        if (pad.read() != NONE) {
            return NO;
        }
        now.source.copy(pad.source);
        now.dropLinks();
        pad.count = 0;
        stale = true;
        return now.source.words;
    }

    public int target(int words) {
        if (words < 0 || words > TARGET_WORDS) {
            return OUTSIDE;
        }
        int before = now.targetWords;
        now.targetWords = words;
        now.dropLinks();
        stale = true;
        return before;
    }

    public int link(int word, int other) {
        if (word < 0 || word >= now.source.words || other < 0 || other >= now.targetWords) {
            return UNKNOWN;
        }
        now.links[word] ^= 1 << other;
        stale = true;
        return (now.links[word] >> other) & 1;
    }

    // ---- 2 what is wanted, what is placed

    public int pair(int pair, int what) {
        if (pair < 0 || pair >= PAIRS || !has(now.source.pairs, pair)) {
            return UNKNOWN;
        }
        carry();
        switch (what) {
            case 0: return now.source.opens[pair];
            case 1: return now.source.closes[pair];
            case 2: return now.source.depth(pair);
            case 3: return now.source.holds[pair];
            case 4: return wanted.from[pair];
            case 5: return wanted.to[pair];
            case 6: return pairPlacer.from[pair];
            case 7: return pairPlacer.to[pair];
            case 8: return pairPlacer.cost[pair];
            case 9: return (wanted.missing >> pair) & 1;
            default: return OUTSIDE;
        }
    }

    public int mark(int mark, int what) {
        if (mark < 0 || mark >= MARKS || !has(now.source.marks, mark)) {
            return UNKNOWN;
        }
        carry();
        switch (what) {
            case 0: return now.source.markGap[mark];
            case 1: return wanted.mark[mark];
            case 2: return markPlacer.at[mark];
            default: return OUTSIDE;
        }
    }

    public int total(int what) {
        carry();
        switch (what) {
            case 0: return pairPlacer.costOfAll;
            case 1: return markPlacer.movedInAll;
            case 2: return now.source.pairs;
            case 3: return wanted.missing;
            case 4: return now.source.marks;
            case 5: return now.countLinks();
            case 6: return wanted.countCrossings(now.source.pairs);
            case 7: return now.source.countHolds();
            default: return OUTSIDE;
        }
    }

    // ---- 3 written

    public int sign(int i) {
        carry();
        if (i == -1) {
            return writer.count;
        }
        if (i < 0 || i >= writer.count) {
            return NONE;
        }
        return writer.signs[i];
    }

    public int image(int n) {
        if (n < 0 || n >= IMAGES) {
            return OUTSIDE;
        }
        Sentences kept = images[n];
        if (kept == null) {
            kept = new Sentences();
            images[n] = kept;
        }
        kept.copy(now);
        return 1;
    }

    public int restore(int n) {
        if (n < 0 || n >= IMAGES) {
            return OUTSIDE;
        }
        Sentences kept = images[n];
        if (kept == null) {
            return STATE;
        }
        now.copy(kept);
        stale = true;
        return 1;
    }

    public int told(int what) {
        if (what >= TOLD_LINKS && what < TOLD_LINKS + now.source.words) {
            return now.links[what - TOLD_LINKS];
        }
        switch (what) {
            case 0: return pad.count;
            case 1: return now.source.words;
            case 2: return now.targetWords;
            default: return OUTSIDE;
        }
    }

    /** Placing is dear, and many calls ask for it between two changes: it is done once for all of them. */
    private void carry() {
        if (!stale) {
            return;
        }
        wanted.find(now);
        pairPlacer.place(now.source, wanted, now.targetWords);
        markPlacer.place(now.source, wanted, now.targetWords);
        writer.write(now, pairPlacer, markPlacer);
        stale = false;
    }

    private static boolean has(int bits, int bit) {
        return ((bits >> bit) & 1) != 0;
    }

    /** The signs that were said, and the SOURCE that they tell. */
    private static final class Pad {
        final Source source = new Source();
        int count;
        private final int[] signs = new int[PAD_SIGNS];

        boolean add(int sign) {
            if (count >= PAD_SIGNS) {
                return false;
            }
            signs[count] = sign;
            count++;
            return true;
        }

        /** THE FAULT, or NONE: then the source is what the signs tell. */
        int read() {
            source.clear();
            for (int i = 0; i < count && i < PAD_SIGNS; i++) {
                if (!source.take(signs[i])) {
                    return i;
                }
            }
            return source.openCount > 0 ? count : NONE;
        }
    }

    /** A sentence told sign by sign: WORDS, PAIRS and MARKS with the GAPS where they stand. */
    private static final class Source {
        int words;
        int pairs;
        int marks;
        int markCount;
        int openCount;
        final int[] opens = new int[PAIRS];
        final int[] closes = new int[PAIRS];
        final int[] holds = new int[PAIRS];
        final int[] heldBy = new int[PAIRS];
        final int[] markGap = new int[MARKS];
        final int[] markRow = new int[MARKS];
        private final int[] openRow = new int[PAIRS];

        void clear() {
            words = 0;
            pairs = 0;
            marks = 0;
            markCount = 0;
            openCount = 0;
        }

        void copy(Source other) {
            words = other.words;
            pairs = other.pairs;
            marks = other.marks;
            markCount = other.markCount;
            openCount = other.openCount;
            for (int p = 0; p < PAIRS; p++) {
                opens[p] = other.opens[p];
                closes[p] = other.closes[p];
                holds[p] = other.holds[p];
                heldBy[p] = other.heldBy[p];
                openRow[p] = other.openRow[p];
            }
            for (int m = 0; m < MARKS; m++) {
                markGap[m] = other.markGap[m];
                markRow[m] = other.markRow[m];
            }
        }

        /** False, if the sign can not stand here: then nothing is changed. */
        boolean take(int sign) {
            if (sign == '.') {
                return takeWord();
            }
            if (sign >= 'A' && sign < 'A' + PAIRS) {
                return takeOpening(sign - 'A');
            }
            if (sign >= 'a' && sign < 'a' + PAIRS) {
                return takeClosing(sign - 'a');
            }
            if (sign >= 'x' && sign < 'x' + MARKS) {
                return takeMark(sign - 'x');
            }
            return false;
        }

        private boolean takeWord() {
            if (words >= SOURCE_WORDS) {
                return false;
            }
            words++;
            return true;
        }

        private boolean takeOpening(int pair) {
            if (has(pairs, pair) || openCount >= PAIRS) {
                return false;
            }
            pairs |= 1 << pair;
            opens[pair] = words;
            closes[pair] = words;
            holds[pair] = 0;
            heldBy[pair] = 0;
            for (int i = 0; i < openCount; i++) {
                holds[openRow[i]] |= 1 << pair;
                heldBy[pair] |= 1 << openRow[i];
            }
            openRow[openCount] = pair;
            openCount++;
            return true;
        }

        private boolean takeClosing(int pair) {
            if (openCount < 1 || openRow[openCount - 1] != pair) {
                return false;
            }
            openCount--;
            closes[pair] = words;
            return true;
        }

        private boolean takeMark(int mark) {
            if (has(marks, mark) || markCount >= MARKS) {
                return false;
            }
            marks |= 1 << mark;
            markGap[mark] = words;
            markRow[markCount] = mark;
            markCount++;
            return true;
        }

        int depth(int pair) {
            return Integer.bitCount(heldBy[pair]);
        }

        int countHolds() {
            int count = 0;
            for (int p = 0; p < PAIRS; p++) {
                if (has(pairs, p)) {
                    count += Integer.bitCount(holds[p]);
                }
            }
            return count;
        }
    }

    /** What an IMAGE keeps: the SOURCE, the TARGET, the LINKS (of each WORD of the SOURCE, as bits). */
    private static final class Sentences {
        final Source source = new Source();
        final int[] links = new int[SOURCE_WORDS];
        int targetWords;

        void copy(Sentences other) {
            source.copy(other.source);
            targetWords = other.targetWords;
            for (int w = 0; w < SOURCE_WORDS; w++) {
                links[w] = other.links[w];
            }
        }

        void dropLinks() {
            for (int w = 0; w < SOURCE_WORDS; w++) {
                links[w] = 0;
            }
        }

        int countLinks() {
            int count = 0;
            for (int w = 0; w < SOURCE_WORDS; w++) {
                count += Integer.bitCount(links[w]);
            }
            return count;
        }

        /** All WORDS of the TARGET, as bits, that are linked to those between two GAPS of the SOURCE. */
        int linkedBetween(int from, int to) {
            int linked = 0;
            for (int w = 0; w < SOURCE_WORDS; w++) {
                if (w >= from && w < to) {
                    linked |= links[w];
                }
            }
            return linked;
        }

        int anchor(int gap) {
            int nearest = 0;
            for (int w = 0; w < SOURCE_WORDS; w++) {
                if (w < gap && links[w] != 0) {
                    nearest = links[w];
                }
            }
            return behindGreatest(nearest);
        }

        static int least(int linked) {
            for (int w = 0; w < TARGET_WORDS; w++) {
                if (has(linked, w)) {
                    return w;
                }
            }
            return 0;
        }

        static int behindGreatest(int linked) {
            for (int w = TARGET_WORDS - 1; w >= 0; w--) {
                if (has(linked, w)) {
                    return w + 1;
                }
            }
            return 0;
        }
    }

    /** Where PAIRS and MARKS are WANTED. */
    private static final class Wanted {
        final int[] from = new int[PAIRS];
        final int[] to = new int[PAIRS];
        final int[] mark = new int[MARKS];
        int missing;

        void find(Sentences told) {
            missing = 0;
            for (int p = 0; p < PAIRS; p++) {
                if (has(told.source.pairs, p)) {
                    findPair(told, p);
                }
            }
            for (int m = 0; m < MARKS; m++) {
                if (has(told.source.marks, m)) {
                    mark[m] = told.anchor(told.source.markGap[m]);
                }
            }
        }

        private void findPair(Sentences told, int pair) {
            int opens = told.source.opens[pair];
            int linked = told.linkedBetween(opens, told.source.closes[pair]);
            if (linked == 0) {
                missing |= 1 << pair;
                from[pair] = told.anchor(opens);
                to[pair] = from[pair];
            } else {
                from[pair] = Sentences.least(linked);
                to[pair] = Sentences.behindGreatest(linked);
            }
        }

        int countCrossings(int pairs) {
            int count = 0;
            for (int p = 0; p < PAIRS; p++) {
                for (int q = p + 1; q < PAIRS; q++) {
                    if (has(pairs, p) && has(pairs, q) && cross(p, q)) {
                        count++;
                    }
                }
            }
            return count;
        }

        private boolean cross(int p, int q) {
            return overlapsFromAhead(p, q) || overlapsFromAhead(q, p);
        }

        private boolean overlapsFromAhead(int p, int q) {
            return from[p] < from[q] && from[q] < to[p] && to[p] < to[q];
        }
    }

    /**
     * Finds the PLACED SPANS of PAIRS.
     *
     * A PAIR with a SPAN has a price: its COST, and below it, in digits of four bits, where
     * PAIR 0 begins, ends, where PAIR 1 begins, ends, and so on. Each PAIR fills digits of
     * its own, so the least sum of prices is the least COST and of as little the way that
     * the document chooses, and the digits of that sum tell all SPANS.
     *
     * The least sum is found for each set of PAIRS that are to lie between two GAPS. There
     * either one of them fills the whole room, with all others within it; or a GAP parts
     * them, and they lie on both sides of it; or the room has an end that none needs.
     */
    private static final class PairPlacer {
        private static final int DIGIT = 4;
        private static final int DIGIT_MASK = (1 << DIGIT) - 1;
        private static final int COST_SHIFT = 2 * DIGIT * PAIRS;
        private static final long NO_SUM = ((long) TOO_MUCH) << COST_SHIFT;

        final int[] from = new int[PAIRS];
        final int[] to = new int[PAIRS];
        final int[] cost = new int[PAIRS];
        int costOfAll;
        private final long[] prices = new long[PAIRS * SPANS];
        private final long[] sums = new long[PAIR_SETS * SPANS];
        private final int[] parts = new int[PAIR_SETS];
        private int partCount;

        void place(Source source, Wanted wanted, int last) {
            for (int p = 0; p < PAIRS; p++) {
                if (has(source.pairs, p)) {
                    findPrices(p, wanted.from[p], wanted.to[p], last);
                }
            }
            for (int set = 1; set < PAIR_SETS; set++) {
                if ((set & ~source.pairs) == 0) {
                    findParts(source, set);
                    findSums(source, set, last);
                }
            }
            readSpans(source.pairs, wanted, sums[source.pairs * SPANS + last]);
        }

        private void findPrices(int pair, int wantedFrom, int wantedTo, int last) {
            int shift = shiftOf(pair);
            for (int a = 0; a <= last; a++) {
                for (int b = a; b <= last; b++) {
                    long costs = costOf(pair, wantedFrom, wantedTo, a, b);
                    long spot = (a << DIGIT) | b;
                    prices[pair * SPANS + a * GAPS + b] = (costs << COST_SHIFT) | (spot << shift);
                }
            }
        }

        private static int shiftOf(int pair) {
            return 2 * DIGIT * (PAIRS - 1 - pair);
        }

        private static int costOf(int pair, int wantedFrom, int wantedTo, int a, int b) {
            int farFrom = Math.abs(a - wantedFrom);
            int farTo = Math.abs(b - wantedTo);
            if (pair == NOTE) {
                return 2 * Math.max(farFrom, farTo);
            }
            if (pair < FIRST_LINKED) {
                return farFrom + farTo;
            }
            int still = Math.max(0, Math.min(b, wantedTo) - Math.max(a, wantedFrom));
            return farFrom + farTo + 2 * (wantedTo - wantedFrom - still);
        }

        /** The ways to part a set so that no PAIR of one part HOLDS one of the other: what is held lies within. */
        private void findParts(Source source, int set) {
            partCount = 0;
            for (int part = 1; part < set; part++) {
                if ((part & ~set) == 0 && apart(source, part, set & ~part)) {
                    parts[partCount] = part;
                    partCount++;
                }
            }
        }

        private static boolean apart(Source source, int part, int rest) {
            for (int p = 0; p < PAIRS; p++) {
                if (has(part, p) && ((source.holds[p] | source.heldBy[p]) & rest) != 0) {
                    return false;
                }
            }
            return true;
        }

        /** Short rooms first: the sum of a longer one is built on theirs. */
        private void findSums(Source source, int set, int last) {
            for (int length = 0; length <= last; length++) {
                for (int a = 0; a + length <= last; a++) {
                    int b = a + length;
                    long best = filled(source, set, a * GAPS + b);
                    if (length > 0) {
                        best = Math.min(best, sums[set * SPANS + (a + 1) * GAPS + b]);
                        best = Math.min(best, sums[set * SPANS + a * GAPS + b - 1]);
                        best = Math.min(best, parted(set, a, b));
                    }
                    sums[set * SPANS + a * GAPS + b] = best;
                }
            }
        }

        /** The least sum, if one PAIR has the whole room; it is one that no other of the set HOLDS. */
        private long filled(Source source, int set, int span) {
            long best = NO_SUM;
            for (int p = 0; p < PAIRS; p++) {
                if (has(set, p) && (source.heldBy[p] & set) == 0) {
                    int rest = set & ~(1 << p);
                    best = Math.min(best, prices[p * SPANS + span] + sums[rest * SPANS + span]);
                }
            }
            return best;
        }

        /** The least sum, if a GAP parts the set: one part ahead of it, the rest behind it. */
        private long parted(int set, int a, int b) {
            long best = NO_SUM;
            for (int i = 0; i < partCount; i++) {
                int ahead = parts[i] * SPANS + a * GAPS;
                int behind = (set & ~parts[i]) * SPANS + b;
                for (int cut = a; cut < b; cut++) {
                    best = Math.min(best, sums[ahead + cut] + sums[behind + cut * GAPS]);
                }
            }
            return best;
        }

        private void readSpans(int pairs, Wanted wanted, long sum) {
            costOfAll = (int) (sum >> COST_SHIFT);
            for (int p = 0; p < PAIRS; p++) {
                if (has(pairs, p)) {
                    int spot = (int) (sum >> shiftOf(p));
                    from[p] = (spot >> DIGIT) & DIGIT_MASK;
                    to[p] = spot & DIGIT_MASK;
                    cost[p] = costOf(p, wanted.from[p], wanted.to[p], from[p], to[p]);
                }
            }
        }
    }

    /** Finds the GAPS where MARKS are PLACED. */
    private static final class MarkPlacer {
        final int[] at = new int[MARKS];
        int movedInAll;
        /** How far a MARK of the row and all behind it are moved, and its own GAP, if it may not be ahead of a GAP. */
        private final int[] moved = new int[(MARKS + 1) * GAPS];
        private final int[] chosen = new int[MARKS * GAPS];

        void place(Source source, Wanted wanted, int last) {
            for (int gap = 0; gap < GAPS; gap++) {
                moved[source.markCount * GAPS + gap] = 0;
            }
            for (int i = source.markCount - 1; i >= 0; i--) {
                findMoves(i, wanted.mark[source.markRow[i]], last);
            }
            movedInAll = moved[0];
            int gap = 0;
            for (int i = 0; i < source.markCount; i++) {
                gap = chosen[i * GAPS + gap];
                at[source.markRow[i]] = gap;
            }
        }

        private void findMoves(int i, int wantedGap, int last) {
            int least = TOO_MUCH;
            int choice = last;
            for (int gap = last; gap >= 0; gap--) {
                int far = Math.abs(gap - wantedGap) + moved[(i + 1) * GAPS + gap];
                if (far <= least) {
                    least = far;
                    choice = gap;
                }
                moved[i * GAPS + gap] = least;
                chosen[i * GAPS + gap] = choice;
            }
        }
    }

    /** The signs that are WRITTEN. */
    private static final class Writer {
        final int[] signs = new int[WRITTEN_SIGNS];
        int count;
        /** Of PAIRS that close, or open, in one GAP, that of the greatest rank comes first. */
        private final int[] ranks = new int[PAIRS];

        void write(Sentences told, PairPlacer pairs, MarkPlacer marks) {
            count = 0;
            for (int gap = 0; gap <= told.targetWords; gap++) {
                writeGap(told.source, pairs, marks, gap);
                if (gap < told.targetWords) {
                    add('.');
                }
            }
        }

        private void writeGap(Source source, PairPlacer pairs, MarkPlacer marks, int gap) {
            int empty = 0;
            int closing = 0;
            int opening = 0;
            for (int p = 0; p < PAIRS; p++) {
                if (has(source.pairs, p)) {
                    boolean begins = pairs.from[p] == gap;
                    boolean ends = pairs.to[p] == gap;
                    empty |= begins && ends ? 1 << p : 0;
                    closing |= ends && !begins ? 1 << p : 0;
                    opening |= begins && !ends ? 1 << p : 0;
                }
            }
            int first = empty & heldByAny(source, closing);
            int last = empty & ~first & heldByAny(source, opening);
            addEmpty(first);
            rankClosing(source, pairs);
            addRanked(closing, 'a');
            addMarks(source, marks, gap);
            addEmpty(empty & ~first & ~last);
            rankOpening(source, pairs);
            addRanked(opening, 'A');
            addEmpty(last);
        }

        private static int heldByAny(Source source, int set) {
            int held = 0;
            for (int p = 0; p < PAIRS; p++) {
                if (has(set, p)) {
                    held |= source.holds[p];
                }
            }
            return held;
        }

        private void addEmpty(int set) {
            for (int p = 0; p < PAIRS; p++) {
                if (has(set, p)) {
                    add('A' + p);
                    add('a' + p);
                }
            }
        }

        /** What was opened later closes first; of one GAP by DEPTH, then by number, the greatest first. */
        private void rankClosing(Source source, PairPlacer pairs) {
            for (int p = 0; p < PAIRS; p++) {
                ranks[p] = (pairs.from[p] * PAIRS + source.depth(p)) * PAIRS + p;
            }
        }

        /** What closes later opens first; of one GAP by DEPTH, then by number, the least first. */
        private void rankOpening(Source source, PairPlacer pairs) {
            for (int p = 0; p < PAIRS; p++) {
                ranks[p] = (pairs.to[p] * PAIRS - source.depth(p)) * PAIRS - p;
            }
        }

        private void addRanked(int set, int firstSign) {
            int left = set;
            for (int i = 0; i < PAIRS && left != 0; i++) {
                int next = greatestRank(left);
                add(firstSign + next);
                left &= ~(1 << next);
            }
        }

        private int greatestRank(int set) {
            int best = -1;
            for (int p = 0; p < PAIRS; p++) {
                if (has(set, p) && (best < 0 || ranks[p] > ranks[best])) {
                    best = p;
                }
            }
            return best;
        }

        private void addMarks(Source source, MarkPlacer marks, int gap) {
            for (int i = 0; i < source.markCount; i++) {
                int mark = source.markRow[i];
                if (marks.at[mark] == gap) {
                    add('x' + mark);
                }
            }
        }

        private void add(int sign) {
            if (count < WRITTEN_SIGNS) {
                signs[count] = sign;
                count++;
            }
        }
    }
}
