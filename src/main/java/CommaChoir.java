/**
 * A choir that tunes pure: chords of tones in whole-number ratios, each chord tied to the one
 * ahead by a held tone, or free from it. Numbers in the comments are the document's promises.
 */
public final class CommaChoir {
    public static final int NONE = -100000001, BAD = -100000002, NO = -100000003, FULL = -100000004;

    private static final int MOST_CHORDS = 12;
    private static final int MOST_TONES = 5;
    private static final int MOST_BYTES = 120;
    private static final int GREATEST_LIMIT = 9999;
    private static final int FIRST_LIMIT = 2000;
    private static final int PRIME_COUNT = 4;
    private static final int GREATEST_MEETING = 16;
    private static final int OCTAVE = 120000;
    private static final int TWELFTH = 10000;
    private static final int BEFORE_FAULT = -10;
    private static final int BEFORE_REFUSED_ORDER = -1000;
    private static final long DIGEST_START = 1775;

    private final History history;
    private final Tuning tuning;
    private final Reader reader;
    private final int[] bytes;
    private int byteCount;
    private int badCount;
    private int noCount;
    private int fullCount;

    /** Promise 1. */
    public CommaChoir() {
        history = new History();
        tuning = new Tuning();
        reader = new Reader();
        bytes = new int[MOST_BYTES];
    }

    // ---- chords

    /** Promise 2. */
    public int chord() {
        return settled(history.opened().addChord());
    }

    /** Promise 3. */
    public int tone(int c, int n, int d) {
        return settled(history.opened().addTone(c, n, d));
    }

    /** Promise 4. */
    public int tunes(int c, int t, int n, int d) {
        return settled(history.opened().changeTone(c, t, n, d));
    }

    /** Promise 5. */
    public int holds(int c, int i, int j) {
        return settled(history.opened().addTie(c, i, j));
    }

    /** Promise 6. */
    public int frees(int c) {
        return settled(history.opened().removeTie(c));
    }

    /** Promise 7. */
    public int drops() {
        return settled(history.opened().removeLastChord());
    }

    /** Promise 8. */
    public int limit(int v) {
        return settled(history.opened().changeLimit(v));
    }

    // ---- pitches

    /** Promise 9. */
    public int of(int c, int t, int what) {
        Score score = history.current();
        if (!score.hasTone(c, t) || !isWithin(what, PRIME_COUNT)) {
            return refused(BAD);
        }
        return what < PRIME_COUNT ? score.powerAt(c, t, what) : score.sizeAt(c, t);
    }

    /** Promise 10. */
    public int root(int c, int what) {
        if (!history.current().hasChord(c) || !isWithin(what, 6)) {
            return refused(BAD);
        }
        switch (what) {
            case 4:
                return tuning.rootSize(c);
            case 5:
                return tuning.driftAt(c);
            case 6:
                return tuning.partAt(c);
            default:
                return tuning.rootPower(c, what);
        }
    }

    /** Promise 11. */
    public int pitch(int c, int t, int what) {
        Score score = history.current();
        if (!score.hasTone(c, t) || !isWithin(what, 5)) {
            return refused(BAD);
        }
        switch (what) {
            case 4:
                return tuning.rootSize(c) + score.sizeAt(c, t);
            case 5:
                return sungSize(c, t);
            default:
                return tuning.rootPower(c, what) + score.powerAt(c, t, what);
        }
    }

    /** Promise 12. */
    public int tie(int c, int what) {
        Score score = history.current();
        if (!score.hasChord(c) || !isWithin(what, 1)) {
            return refused(BAD);
        }
        if (!score.hasNext(c)) {
            return refused(NO);
        }
        if (!score.isTied(c)) {
            return NONE;
        }
        return what == 0 ? score.heldTone(c) : score.heldAs(c);
    }

    /** Promise 13. */
    public int loop(int a, int b, int what) {
        Score score = history.current();
        if (!score.hasChord(a) || !score.hasChord(b) || !isWithin(what, PRIME_COUNT)) {
            return refused(BAD);
        }
        if (tuning.partAt(a) != tuning.partAt(b)) {
            return refused(NO);
        }
        if (what < PRIME_COUNT) {
            return tuning.rootPower(b, what) - tuning.rootPower(a, what);
        }
        return Ratios.offNearest(tuning.rootSize(b) - tuning.rootSize(a), OCTAVE);
    }

    // ---- parts

    /** Promise 14. */
    public int part(int p, int what) {
        if (!isWithin(p, tuning.partCount() - 1) || !isWithin(what, 3)) {
            return refused(BAD);
        }
        int first = tuning.firstOfPart(p);
        int last = tuning.lastOfPart(p);
        switch (what) {
            case 0:
                return first;
            case 1:
                return last - first + 1;
            case 2:
                return tuning.driftAt(last);
            default:
                return tuning.driftAt(last) + tuning.setAt(last);
        }
    }

    /** Promise 15. */
    public int share(int c) {
        Score score = history.current();
        if (!score.hasChord(c)) {
            return refused(BAD);
        }
        return score.isTied(c) ? tuning.shareAt(c) : refused(NO);
    }

    /** Promise 16. */
    public int set(int c) {
        return history.current().hasChord(c) ? tuning.setAt(c) : refused(BAD);
    }

    /** Promise 17. */
    public int count(int what) {
        Score score = history.current();
        switch (what) {
            case 0:
                return score.chordCount();
            case 1:
                return tuning.partCount();
            case 2:
                // every chord but the first of its part has one tie to the chord ahead
                return score.chordCount() - tuning.partCount();
            case 3:
                return score.allTones();
            case 4:
                return score.greatestAllowed();
            case 5:
                return tuning.greatestShare();
            default:
                return refused(BAD);
        }
    }

    // ---- tones

    /** Promise 18. */
    public int interval(int c, int i, int j, int what) {
        Score score = history.current();
        if (!score.hasTone(c, i) || !score.hasTone(c, j) || i == j || !isWithin(what, 4)) {
            return refused(BAD);
        }
        int size = score.sizeAt(c, j) - score.sizeAt(c, i);
        switch (what) {
            case 0:
                return score.intervalTerm(c, i, j);
            case 1:
                return score.intervalTerm(c, j, i);
            case 2:
                return size;
            case 3:
                return Ratios.offNearest(size, TWELFTH);
            default:
                return meeting(score.intervalTerm(c, i, j), score.intervalTerm(c, j, i));
        }
    }

    /** Promise 19. */
    public int order(int c, int k) {
        Score score = history.current();
        return score.hasTone(c, k) ? score.toneByRank(c, k) : refused(BAD);
    }

    /** Promise 20. */
    public int voice(int v, int c) {
        Score score = history.current();
        if (!isVoice(v) || !score.hasChord(c)) {
            return refused(BAD);
        }
        return score.toneOfVoice(v, c);
    }

    /** Promise 21. */
    public int leap(int v, int c) {
        Score score = history.current();
        if (!isVoice(v) || c == 0 || !score.hasChord(c)) {
            return refused(BAD);
        }
        int from = score.toneOfVoice(v, c - 1);
        int to = score.toneOfVoice(v, c);
        if (!score.isTied(c - 1) || from == NONE || to == NONE) {
            return NONE;
        }
        return sungSize(c, to) - sungSize(c - 1, from);
    }

    // ---- texts

    /** Promise 22. */
    public int type(int c) {
        if (!isWithin(c, 127)) {
            return refused(BAD);
        }
        if (byteCount >= MOST_BYTES) {
            return refused(FULL);
        }
        bytes[byteCount] = c;
        byteCount++;
        return byteCount;
    }

    /** Promise 23. */
    public int clear() {
        int had = byteCount;
        byteCount = 0;
        return had;
    }

    /** Promise 24. */
    public int does() {
        int fault = reader.faultIn(bytes, byteCount);
        if (fault != Reader.NO_FAULT) {
            return BEFORE_FAULT - fault;
        }
        Score score = history.opened();
        for (int k = 0; k < reader.orderCount(); k++) {
            if (isRefusal(reader.carryOut(k, score))) {
                history.dismiss();
                return BEFORE_REFUSED_ORDER - k;
            }
        }
        history.keep();
        tuning.follow(score);
        return reader.orderCount();
    }

    /** Promise 25. */
    public int back() {
        if (history.stateCount() == 0) {
            return refused(NO);
        }
        history.goBack();
        tuning.follow(history.current());
        return history.stateCount();
    }

    /** Promise 26. */
    public int told(int what) {
        switch (what) {
            case 0:
                return badCount;
            case 1:
                return noCount;
            case 2:
                return fullCount;
            case 3:
                return byteCount;
            case 4:
                return history.stateCount();
            default:
                return refused(BAD);
        }
    }

    /** Promise 27. */
    public long digest() {
        long h = DIGEST_START;
        for (int what = 0; what <= 4; what++) {
            h = 31 * h + told(what);
        }
        for (int what = 0; what <= 5; what++) {
            h = 31 * h + count(what);
        }
        int chords = history.current().chordCount();
        for (int c = 0; c < chords; c++) {
            h = digestOfTones(digestOfRoot(h, c), c);
        }
        return digestOfParts(digestOfTies(h));
    }

    private long digestOfRoot(long before, int c) {
        long h = before;
        for (int what = 0; what <= 6; what++) {
            h = 31 * h + root(c, what);
        }
        return 31 * h + set(c);
    }

    private long digestOfTones(long before, int c) {
        long h = before;
        int tones = history.current().toneCount(c);
        for (int t = 0; t < tones; t++) {
            for (int what = 0; what < PRIME_COUNT; what++) {
                h = 31 * h + of(c, t, what);
            }
            h = 31 * h + pitch(c, t, 5);
        }
        for (int k = 0; k < tones; k++) {
            h = 31 * h + order(c, k);
        }
        return h;
    }

    private long digestOfTies(long before) {
        long h = before;
        Score score = history.current();
        for (int c = 0; c < score.chordCount(); c++) {
            if (score.isTied(c)) {
                h = 31 * h + tie(c, 0);
                h = 31 * h + tie(c, 1);
                h = 31 * h + share(c);
            }
        }
        return h;
    }

    private long digestOfParts(long before) {
        long h = before;
        for (int p = 0; p < tuning.partCount(); p++) {
            for (int what = 0; what <= 3; what++) {
                h = 31 * h + part(p, what);
            }
        }
        return h;
    }

    private int sungSize(int c, int t) {
        return tuning.rootSize(c) + history.current().sizeAt(c, t) + tuning.setAt(c);
    }

    /** Ends a call that leaves a state, unless the score has refused it. */
    private int settled(int answer) {
        if (isRefusal(answer)) {
            return refused(answer);
        }
        history.keep();
        tuning.follow(history.current());
        return answer;
    }

    private int refused(int why) {
        if (why == BAD) {
            badCount++;
        } else if (why == NO) {
            noCount++;
        } else {
            fullCount++;
        }
        return why;
    }

    private static boolean isRefusal(int answer) {
        return answer == BAD || answer == NO || answer == FULL;
    }

    private static boolean isWithin(int number, int greatest) {
        return number >= 0 && number <= greatest;
    }

    private static boolean isVoice(int v) {
        return isWithin(v, MOST_TONES - 1);
    }

    private static int meeting(int above, int below) {
        return above <= GREATEST_MEETING && below <= GREATEST_MEETING ? above * below : NONE;
    }

    /** Whole numbers made of 2, 3, 5, 7 alone, and sizes in hundredths of a cent. */
    private static final class Ratios {
        private static final int[] PRIMES = {2, 3, 5, 7};
        private static final int[] PRIME_SIZES = {120000, 190196, 278631, 336883};
        private static final int GREATEST_TERM = 64;
        // 64 is 2 to the power of 6: no prime is in a term more often
        private static final int GREATEST_POWER = 6;

        static boolean isTerm(int n) {
            if (n < 1 || n > GREATEST_TERM) {
                return false;
            }
            int left = n;
            for (int k = 0; k < PRIME_COUNT; k++) {
                int power = powerIn(n, k);
                for (int i = 0; i < power; i++) {
                    left /= PRIMES[k];
                }
            }
            return left == 1;
        }

        static int powerIn(int n, int k) {
            int left = n;
            int power = 0;
            while (power < GREATEST_POWER && left % PRIMES[k] == 0) {
                left /= PRIMES[k];
                power++;
            }
            return power;
        }

        static int sizeOf(int[] powers, int start) {
            int size = 0;
            for (int k = 0; k < PRIME_COUNT; k++) {
                size += PRIME_SIZES[k] * powers[start + k];
            }
            return size;
        }

        static int primeToPower(int k, int power) {
            int product = 1;
            for (int i = 0; i < power; i++) {
                product *= PRIMES[k];
            }
            return product;
        }

        /** What size is over the nearest multiple of step, of two alike the lesser multiple. */
        static int offNearest(int size, int step) {
            int half = step / 2;
            return half - Math.floorMod(half - size, step);
        }
    }

    /** What is written: chords, their tones, their ties and the limit. It counts no refusals. */
    private static final class Score {
        private final int[] toneCounts;
        private final int[] powers;
        // the tie of chord c and the next one: NONE where they are free
        private final int[] heldTones;
        private final int[] heldAs;
        private int chordCount;
        private int limit;

        Score() {
            toneCounts = new int[MOST_CHORDS];
            powers = new int[MOST_CHORDS * MOST_TONES * PRIME_COUNT];
            heldTones = new int[MOST_CHORDS];
            heldAs = new int[MOST_CHORDS];
            limit = FIRST_LIMIT;
        }

        void copyFrom(Score other) {
            System.arraycopy(other.toneCounts, 0, toneCounts, 0, toneCounts.length);
            System.arraycopy(other.powers, 0, powers, 0, powers.length);
            System.arraycopy(other.heldTones, 0, heldTones, 0, heldTones.length);
            System.arraycopy(other.heldAs, 0, heldAs, 0, heldAs.length);
            chordCount = other.chordCount;
            limit = other.limit;
        }

        int addChord() {
            if (chordCount >= MOST_CHORDS) {
                return FULL;
            }
            int c = chordCount;
            toneCounts[c] = 0;
            heldTones[c] = NONE;
            chordCount++;
            return c;
        }

        int addTone(int c, int n, int d) {
            if (!hasChord(c) || !Ratios.isTerm(n) || !Ratios.isTerm(d)) {
                return BAD;
            }
            int t = toneCounts[c];
            if (t >= MOST_TONES) {
                return FULL;
            }
            toneCounts[c] = t + 1;
            writeRatio(c, t, n, d);
            return t;
        }

        int changeTone(int c, int t, int n, int d) {
            if (!hasTone(c, t) || !Ratios.isTerm(n) || !Ratios.isTerm(d)) {
                return BAD;
            }
            writeRatio(c, t, n, d);
            int fromAhead = isTied(c - 1) && heldAs[c - 1] == t ? 1 : 0;
            int toNext = isTied(c) && heldTones[c] == t ? 1 : 0;
            return fromAhead + toNext;
        }

        int addTie(int c, int i, int j) {
            if (!hasTone(c, i)) {
                return BAD;
            }
            if (!hasNext(c)) {
                return NO;
            }
            if (!hasTone(c + 1, j)) {
                return BAD;
            }
            int had = isTied(c) ? 1 : 0;
            heldTones[c] = i;
            heldAs[c] = j;
            return had;
        }

        int removeTie(int c) {
            if (!hasChord(c)) {
                return BAD;
            }
            if (!hasNext(c)) {
                return NO;
            }
            int had = isTied(c) ? 1 : 0;
            heldTones[c] = NONE;
            return had;
        }

        int removeLastChord() {
            if (chordCount == 0) {
                return NO;
            }
            chordCount--;
            if (chordCount > 0) {
                heldTones[chordCount - 1] = NONE;
            }
            return chordCount;
        }

        int changeLimit(int v) {
            if (!isWithin(v, GREATEST_LIMIT)) {
                return BAD;
            }
            int was = limit;
            limit = v;
            return was;
        }

        private void writeRatio(int c, int t, int n, int d) {
            int start = startOf(c, t);
            for (int k = 0; k < PRIME_COUNT; k++) {
                powers[start + k] = Ratios.powerIn(n, k) - Ratios.powerIn(d, k);
            }
        }

        private static int startOf(int c, int t) {
            return (c * MOST_TONES + t) * PRIME_COUNT;
        }

        boolean hasChord(int c) {
            return isWithin(c, chordCount - 1);
        }

        boolean hasNext(int c) {
            return isWithin(c, chordCount - 2);
        }

        boolean hasTone(int c, int t) {
            return hasChord(c) && isWithin(t, toneCounts[c] - 1);
        }

        boolean isTied(int c) {
            return hasNext(c) && heldTones[c] != NONE;
        }

        int heldTone(int c) {
            return heldTones[c];
        }

        int heldAs(int c) {
            return heldAs[c];
        }

        int chordCount() {
            return chordCount;
        }

        int toneCount(int c) {
            return toneCounts[c];
        }

        int allTones() {
            int tones = 0;
            for (int c = 0; c < chordCount; c++) {
                tones += toneCounts[c];
            }
            return tones;
        }

        int greatestAllowed() {
            return limit;
        }

        int powerAt(int c, int t, int k) {
            return powers[startOf(c, t) + k];
        }

        int sizeAt(int c, int t) {
            return Ratios.sizeOf(powers, startOf(c, t));
        }

        /** By how much the power of prime k grows from the root of c to the next one's. */
        int tiePower(int c, int k) {
            return powerAt(c, heldTones[c], k) - powerAt(c + 1, heldAs[c], k);
        }

        /** What stands above the line in ratio j by ratio i, in lowest terms. */
        int intervalTerm(int c, int i, int j) {
            int term = 1;
            for (int k = 0; k < PRIME_COUNT; k++) {
                term *= Ratios.primeToPower(k, powerAt(c, j, k) - powerAt(c, i, k));
            }
            return term;
        }

        int toneByRank(int c, int rank) {
            for (int t = 0; t < toneCounts[c]; t++) {
                if (rankOf(c, t) == rank) {
                    return t;
                }
            }
            return NONE;
        }

        private int rankOf(int c, int t) {
            int size = sizeAt(c, t);
            int rank = 0;
            for (int u = 0; u < toneCounts[c]; u++) {
                int other = sizeAt(c, u);
                if (other < size || (other == size && u < t)) {
                    rank++;
                }
            }
            return rank;
        }

        int toneOfVoice(int v, int c) {
            return toneByRank(c, Math.min(v, toneCounts[c] - 1));
        }
    }

    /** The score that is sung, and those to go back to. */
    private static final class History {
        private static final int MOST_STATES = 5;

        private final Score[] states;
        private int stateCount;
        private Score current;
        // what the current score was when the running call began
        private Score before;

        History() {
            states = new Score[MOST_STATES];
            for (int s = 0; s < MOST_STATES; s++) {
                states[s] = new Score();
            }
            current = new Score();
            before = new Score();
        }

        Score current() {
            return current;
        }

        int stateCount() {
            return stateCount;
        }

        /** The current score, ready to be changed: keep() or dismiss() may follow. */
        Score opened() {
            before.copyFrom(current);
            return current;
        }

        void dismiss() {
            current.copyFrom(before);
        }

        void keep() {
            if (stateCount == MOST_STATES) {
                loseOldest();
            }
            Score unused = states[stateCount];
            states[stateCount] = before;
            before = unused;
            stateCount++;
        }

        private void loseOldest() {
            Score oldest = states[0];
            for (int s = 1; s < MOST_STATES; s++) {
                states[s - 1] = states[s];
            }
            states[MOST_STATES - 1] = oldest;
            stateCount--;
        }

        void goBack() {
            if (stateCount > 0) {
                stateCount--;
                current.copyFrom(states[stateCount]);
            }
        }
    }

    /** What follows from a score: roots, parts, shares, sets. */
    private static final class Tuning {
        private final int[] rootPowers;
        private final int[] partNumbers;
        private final int[] firsts;
        private final int[] lasts;
        private final int[] shares;
        private final int[] sets;
        private int partCount;
        private int greatestShare;

        Tuning() {
            rootPowers = new int[MOST_CHORDS * PRIME_COUNT];
            partNumbers = new int[MOST_CHORDS];
            firsts = new int[MOST_CHORDS];
            lasts = new int[MOST_CHORDS];
            shares = new int[MOST_CHORDS];
            sets = new int[MOST_CHORDS];
        }

        void follow(Score score) {
            partCount = 0;
            greatestShare = 0;
            for (int c = 0; c < score.chordCount(); c++) {
                if (score.isTied(c - 1)) {
                    moveRoot(score, c);
                } else {
                    beginPart(c);
                }
                partNumbers[c] = partCount - 1;
                lasts[partCount - 1] = c;
            }
            for (int p = 0; p < partCount; p++) {
                spread(p, score.greatestAllowed());
            }
        }

        private void beginPart(int c) {
            firsts[partCount] = c;
            partCount++;
            for (int k = 0; k < PRIME_COUNT; k++) {
                rootPowers[c * PRIME_COUNT + k] = 0;
            }
        }

        private void moveRoot(Score score, int c) {
            for (int k = 0; k < PRIME_COUNT; k++) {
                rootPowers[c * PRIME_COUNT + k] = rootPower(c - 1, k) + score.tiePower(c - 1, k);
            }
        }

        private void spread(int p, int limit) {
            int first = firsts[p];
            int last = lasts[p];
            sets[first] = 0;
            int ties = last - first;
            if (ties < 1) {
                return;
            }
            int drift = driftAt(last);
            int each = Math.abs(drift) / ties;
            int leftOver = Math.abs(drift) % ties;
            for (int c = first; c < last; c++) {
                int size = Math.min(c - first < leftOver ? each + 1 : each, limit);
                shares[c] = drift > 0 ? -size : size;
                sets[c + 1] = sets[c] + shares[c];
                greatestShare = Math.max(greatestShare, size);
            }
        }

        int rootPower(int c, int k) {
            return rootPowers[c * PRIME_COUNT + k];
        }

        int rootSize(int c) {
            return Ratios.sizeOf(rootPowers, c * PRIME_COUNT);
        }

        int driftAt(int c) {
            return Ratios.offNearest(rootSize(c), OCTAVE);
        }

        int partAt(int c) {
            return partNumbers[c];
        }

        int partCount() {
            return partCount;
        }

        int firstOfPart(int p) {
            return firsts[p];
        }

        int lastOfPart(int p) {
            return lasts[p];
        }

        int shareAt(int c) {
            return shares[c];
        }

        int setAt(int c) {
            return sets[c];
        }

        int greatestShare() {
            return greatestShare;
        }
    }

    /** Reads the text into orders, byte by byte. */
    private static final class Reader {
        static final int NO_FAULT = -1;
        private static final int NO_ORDER = -1;
        private static final int MOST_FIGURES = 4;
        private static final int MOST_NUMBERS = 3;
        // the shortest order has two bytes
        private static final int MOST_ORDERS = MOST_BYTES / 2;

        private final int[] letters;
        private final int[] numbers;
        private int orderCount;
        // of the order that is being read: how many numbers it takes (NO_ORDER between orders),
        // how many have begun, and how many figures the last one has while it is still open
        private int wanted;
        private int begun;
        private int figures;

        Reader() {
            letters = new int[MOST_ORDERS];
            numbers = new int[MOST_ORDERS * MOST_NUMBERS];
        }

        int orderCount() {
            return orderCount;
        }

        /** The place of the fault; without one, the orders are ready to be carried out. */
        int faultIn(int[] bytes, int length) {
            orderCount = 0;
            wanted = NO_ORDER;
            figures = 0;
            for (int place = 0; place < length; place++) {
                if (!takes(bytes[place])) {
                    return place;
                }
            }
            return wanted == NO_ORDER && orderCount > 0 ? NO_FAULT : length;
        }

        private boolean takes(int b) {
            if (b >= '0' && b <= '9') {
                return takesFigure(b - '0');
            }
            figures = 0;
            if (b == ' ') {
                return true;
            }
            return b == ';' ? takesEnd() : takesLetter(b);
        }

        private boolean takesFigure(int figure) {
            if (figures == 0) {
                if (wanted == NO_ORDER || begun >= wanted) {
                    return false;
                }
                numbers[orderCount * MOST_NUMBERS + begun] = 0;
                begun++;
            }
            if (figures >= MOST_FIGURES) {
                return false;
            }
            figures++;
            int at = orderCount * MOST_NUMBERS + begun - 1;
            numbers[at] = numbers[at] * 10 + figure;
            return true;
        }

        private boolean takesEnd() {
            if (wanted == NO_ORDER || begun < wanted) {
                return false;
            }
            orderCount++;
            wanted = NO_ORDER;
            return true;
        }

        private boolean takesLetter(int b) {
            int needed = numbersOf(b);
            if (wanted != NO_ORDER || needed == NO_ORDER || orderCount >= MOST_ORDERS) {
                return false;
            }
            letters[orderCount] = b;
            wanted = needed;
            begun = 0;
            return true;
        }

        private static int numbersOf(int letter) {
            switch (letter) {
                case 'c':
                    return 0;
                case 'f':
                case 'l':
                    return 1;
                case 't':
                case 'h':
                    return 3;
                default:
                    return NO_ORDER;
            }
        }

        /** Does order k on the score: the answer of its call. */
        int carryOut(int k, Score score) {
            int start = k * MOST_NUMBERS;
            switch (letters[k]) {
                case 'c':
                    return score.addChord();
                case 't':
                    return score.addTone(numbers[start], numbers[start + 1], numbers[start + 2]);
                case 'h':
                    return score.addTie(numbers[start], numbers[start + 1], numbers[start + 2]);
                case 'f':
                    return score.removeTie(numbers[start]);
                default:
                    return score.changeLimit(numbers[start]);
            }
        }
    }
}
