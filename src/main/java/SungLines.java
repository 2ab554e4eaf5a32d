import java.util.Arrays;

/** Lines made of stock phrases; the document's numbered promises say what each call does. */
public final class SungLines {
    public static final int NONE = -1, BAD = -2, NO = -3, FULL = -4, MUCH = -5;

    private static final int NOT_SO_MANY = -10;
    private static final int FAULT_BASE = -10;
    private static final int STOP_BASE = -1000;
    private static final int SUM_OF_HABITS = -2;

    private static final int SLOTS = 4;
    private static final int ALL_SLOTS = 15;
    private static final int MAKERS = 3;
    private static final int MOST_PHRASES = 12;
    private static final int MOST_FIGURES = 6;
    private static final int MOST_LETTERS = 40;
    private static final int MOST_MORAE = 40;
    private static final int PLACES = 41;
    private static final int MOST_BYTES = 150;
    private static final int MOST_STATES = 5;
    private static final int MOST_SEED = 999999;
    private static final long MOST_ROWS = 9223372036854775807L;
    private static final int FACTS_OF_PHRASE = 7;
    private static final int FACTS_TOLD = 15;
    private static final int BREAK = 1;
    private static final int BRIDGE = 2;

    private final Song song;
    private final Board board;
    private final Counter counter;
    private final Chooser chooser;
    private final History history;
    private final Text text;
    private final int[] refused;

    public SungLines() {
        Song newSong = new Song();
        Board newBoard = new Board(newSong);
        song = newSong;
        board = newBoard;
        counter = new Counter(newSong, newBoard);
        chooser = new Chooser(newSong, newBoard);
        history = new History();
        text = new Text();
        refused = new int[4];
    }

    // ---- phrases, rules

    public int phrase(int slot, int code) {
        history.stage(song);
        return settled(song.addPhrase(slot, code));
    }

    public int drops(int i) {
        history.stage(song);
        return settled(song.dropPhrase(i));
    }

    public int begins(int v) {
        history.stage(song);
        return settled(song.setBegins(v));
    }

    public int ends(int v) {
        history.stage(song);
        return settled(song.setEnds(v));
    }

    public int follows(int s, int v) {
        history.stage(song);
        return settled(song.setFollows(s, v));
    }

    public int of(int i, int what) {
        if (!song.hasPhrase(i) || !within(what, 0, FACTS_OF_PHRASE - 1)) {
            return refusal(BAD);
        }
        return song.factOf(i, what);
    }

    // ---- the line

    public int letter(int c) {
        history.stage(song);
        return settled(song.addLetter(c));
    }

    public int wipes() {
        history.stage(song);
        return settled(song.wipeLine());
    }

    public long cuts() {
        long all = countCuts();
        return all < 0 ? refusal(MUCH) : all;
    }

    public int best(int m, int i) {
        if (!isMaker(m) || i < SUM_OF_HABITS) {
            return refusal(BAD);
        }
        if (!chooser.findBest(m)) {
            return refusal(NO);
        }
        if (i == SUM_OF_HABITS) {
            return chooser.bestSum();
        }
        return partOf(chooser.chosen, chooser.chosenSize, i);
    }

    public int sings(int m) {
        history.stage(song);
        return settled(singBest(m));
    }

    public int fixes(int m, int s) {
        if (!isMaker(m) || !isSlot(s)) {
            return refusal(BAD);
        }
        return song.fixedPhrase(m, s);
    }

    // ---- lines made

    public int metre(int n) {
        history.stage(song);
        return settled(song.setMetre(n));
    }

    public int marks(int place, int v) {
        history.stage(song);
        return settled(song.setMark(place, v));
    }

    public long made() {
        long all = countMade(NONE);
        return all < 0 ? refusal(MUCH) : all;
    }

    public int row(long n, int i) {
        if (n < 0 || i < NONE) {
            return refusal(BAD);
        }
        long all = countMade(NONE);
        if (all < 0) {
            return refusal(MUCH);
        }
        if (n >= all) {
            return refusal(NO);
        }
        counter.findRow(n);
        return partOf(counter.found, counter.foundSize, i);
    }

    public long weight(int m, int i) {
        if (!isMaker(m) || (i != NONE && !song.hasPhrase(i))) {
            return refusal(BAD);
        }
        long all = countMade(m);
        if (all < 0) {
            return refusal(MUCH);
        }
        return i == NONE ? all : counter.shareOf(0, 0, i);
    }

    public int picks(int m, int seed, int i) {
        if (!isMaker(m) || !within(seed, 0, MOST_SEED) || i < NONE) {
            return refusal(BAD);
        }
        long all = countMade(m);
        if (all < 0) {
            return refusal(MUCH);
        }
        if (all == 0) {
            return refusal(NO);
        }
        long x = (seed * 1103515245L + 12345L) % 2147483648L;
        counter.findRow(x % all);
        return partOf(counter.found, counter.foundSize, i);
    }

    // ---- texts

    public int type(int c) {
        int answer = text.addByte(c);
        return answer < 0 ? refusal(answer) : answer;
    }

    public int clear() {
        return text.wipeBytes();
    }

    public int reads() {
        int fault = text.findFault();
        if (fault != NONE) {
            return FAULT_BASE - fault;
        }
        history.stage(song);
        text.rewind();
        int done = 0;
        while (done < MOST_BYTES && text.readOrder()) {
            if (doOrder() < 0) {
                history.restoreStaged(song);
                return STOP_BASE - done;
            }
            done++;
        }
        history.keepStaged();
        return done;
    }

    public int back() {
        if (history.size == 0) {
            return refusal(NO);
        }
        history.restoreLast(song);
        return history.size;
    }

    public int told(int what) {
        return within(what, 0, FACTS_TOLD - 1) ? factTold(what) : refusal(BAD);
    }

    public long digest() {
        long h = 2399;
        for (int what = 0; what < FACTS_TOLD; what++) {
            h = 31 * h + factTold(what);
        }
        h = song.digestOn(h);
        h = 31 * h + countCuts();
        h = 31 * h + countMade(NONE);
        for (int m = 0; m < MAKERS; m++) {
            h = 31 * h + countMade(m);
            for (int s = 0; s < SLOTS; s++) {
                h = 31 * h + song.fixedPhrase(m, s);
            }
        }
        return h;
    }

    // ---- what the calls share

    private static boolean within(int v, int least, int most) {
        return v >= least && v <= most;
    }

    private static boolean isMaker(int m) {
        return within(m, 0, MAKERS - 1);
    }

    private static boolean isSlot(int s) {
        return within(s, 0, SLOTS - 1);
    }

    private static boolean isSet(int v) {
        return within(v, 0, ALL_SLOTS);
    }

    private static boolean holds(int set, int slot) {
        return (set >> slot & 1) == 1;
    }

    /** How many LETTERS a code has; 0 if it is none. */
    private static int lettersIn(int code) {
        int count = 0;
        for (int rest = code; rest > 0 && count <= MOST_FIGURES; rest /= 10) {
            if (!within(rest % 10, 1, 8)) {
                return 0;
            }
            count++;
        }
        return count <= MOST_FIGURES ? count : 0;
    }

    /** MORAE of a code's LETTERS: 2 for e to h, which are the figures from 5 on. */
    private static int moraeIn(int code, int letters) {
        int morae = 0;
        int rest = code;
        for (int k = 0; k < letters; k++) {
            morae += rest % 10 >= 5 ? 2 : 1;
            rest /= 10;
        }
        return morae;
    }

    private static int partOf(int[] parts, int size, int i) {
        if (i == NONE) {
            return size;
        }
        return within(i, 0, size - 1) ? parts[i] : NOT_SO_MANY;
    }

    private int refusal(int why) {
        int kind = why == BAD ? 0 : why == NO ? 1 : why == FULL ? 2 : 3;
        refused[kind]++;
        return why;
    }

    /** Ends a call told S, ahead of which the song was staged. */
    private int settled(int answer) {
        if (answer < 0) {
            return refusal(answer);
        }
        history.keepStaged();
        return answer;
    }

    private long countCuts() {
        board.layLine();
        return counter.countAll(NONE);
    }

    /** ALL WEIGHT by a MAKER, or, for NONE, how many MADE ROWS; MUCH. */
    private long countMade(int maker) {
        board.layMetre();
        return counter.countAll(maker);
    }

    private int singBest(int m) {
        if (!isMaker(m)) {
            return BAD;
        }
        if (!chooser.findBest(m)) {
            return NO;
        }
        for (int k = 0; k < chooser.chosenSize; k++) {
            song.raiseHabit(m, chooser.chosen[k]);
        }
        return chooser.chosenSize;
    }

    /** Does the ORDER that was read last, as its call would, but counts nothing. */
    private int doOrder() {
        int first = text.number[0];
        int second = text.number[1];
        switch (text.kind) {
            case 'f': return song.addPhrase(first, text.lettersAsCode());
            case 'l': return song.setLine(text.letters, text.letterCount);
            case 'b': return song.setBegins(first);
            case 'e': return song.setEnds(first);
            case 'w': return song.setFollows(first, second);
            case 't': return song.setMetre(first);
            case 'k': return song.setMark(first, second);
            case 's': return singBest(first);
            case 'x': return song.dropPhrase(first);
            default: return BAD;
        }
    }

    private int factTold(int what) {
        if (within(what, 0, refused.length - 1)) {
            return refused[what];
        }
        switch (what) {
            case 4: return text.length;
            case 5: return song.phraseCount;
            case 6: return song.lineSize;
            case 7: return song.metreSize;
            case 8: return song.beginSet;
            case 9: return song.endSet;
            case 14: return history.size;
            default: return song.setAfter(1, what - 10);
        }
    }

    /** All that a STATE holds. A change that is refused leaves it as it was. */
    private static final class Song {
        final int[] slot = new int[MOST_PHRASES];
        final int[] code = new int[MOST_PHRASES];
        final int[] size = new int[MOST_PHRASES];
        final int[] morae = new int[MOST_PHRASES];
        final int[] habit = new int[MAKERS * MOST_PHRASES];
        final int[] line = new int[MOST_LETTERS];
        // by place; that of place 0 stays free
        final int[] mark = new int[MOST_MORAE];
        final int[] followSet = new int[SLOTS];
        int phraseCount;
        int lineSize;
        int metreSize = 12;
        int beginSet = ALL_SLOTS;
        int endSet = ALL_SLOTS;

        Song() {
            Arrays.fill(followSet, ALL_SLOTS);
        }

        void copyFrom(Song other) {
            copyRow(other.slot, slot);
            copyRow(other.code, code);
            copyRow(other.size, size);
            copyRow(other.morae, morae);
            copyRow(other.habit, habit);
            copyRow(other.line, line);
            copyRow(other.mark, mark);
            copyRow(other.followSet, followSet);
            phraseCount = other.phraseCount;
            lineSize = other.lineSize;
            metreSize = other.metreSize;
            beginSet = other.beginSet;
            endSet = other.endSet;
        }

        private static void copyRow(int[] from, int[] to) {
            System.arraycopy(from, 0, to, 0, Math.min(from.length, to.length));
        }

        boolean hasPhrase(int i) {
            return within(i, 0, phraseCount - 1);
        }

        int addPhrase(int s, int c) {
            int letters = lettersIn(c);
            if (!isSlot(s) || letters == 0) {
                return BAD;
            }
            for (int i = 0; i < phraseCount; i++) {
                if (slot[i] == s && code[i] == c) {
                    return NO;
                }
            }
            if (phraseCount >= MOST_PHRASES) {
                return FULL;
            }
            int i = phraseCount++;
            slot[i] = s;
            code[i] = c;
            size[i] = letters;
            morae[i] = moraeIn(c, letters);
            for (int m = 0; m < MAKERS; m++) {
                habit[m * MOST_PHRASES + i] = 0;
            }
            return i;
        }

        int dropPhrase(int i) {
            if (!hasPhrase(i)) {
                return BAD;
            }
            phraseCount--;
            for (int k = i; k < phraseCount; k++) {
                movePhrase(k + 1, k);
            }
            return phraseCount;
        }

        private void movePhrase(int from, int to) {
            slot[to] = slot[from];
            code[to] = code[from];
            size[to] = size[from];
            morae[to] = morae[from];
            for (int m = 0; m < MAKERS; m++) {
                habit[m * MOST_PHRASES + to] = habit[m * MOST_PHRASES + from];
            }
        }

        int setBegins(int v) {
            if (!isSet(v)) {
                return BAD;
            }
            int was = beginSet;
            beginSet = v;
            return was;
        }

        int setEnds(int v) {
            if (!isSet(v)) {
                return BAD;
            }
            int was = endSet;
            endSet = v;
            return was;
        }

        int setFollows(int s, int v) {
            if (!isSlot(s) || !isSet(v)) {
                return BAD;
            }
            int was = followSet[s];
            followSet[s] = v;
            return was;
        }

        int addLetter(int c) {
            if (!within(c, 1, 8)) {
                return BAD;
            }
            if (lineSize >= MOST_LETTERS) {
                return FULL;
            }
            line[lineSize++] = c;
            return lineSize;
        }

        int wipeLine() {
            int had = lineSize;
            lineSize = 0;
            return had;
        }

        int setLine(int[] letters, int count) {
            lineSize = Math.min(count, MOST_LETTERS);
            System.arraycopy(letters, 0, line, 0, lineSize);
            return lineSize;
        }

        int setMetre(int n) {
            if (!within(n, 1, MOST_MORAE)) {
                return BAD;
            }
            int was = metreSize;
            metreSize = n;
            return was;
        }

        int setMark(int place, int v) {
            if (!within(place, 1, MOST_MORAE - 1) || !within(v, 0, BRIDGE)) {
                return BAD;
            }
            int was = mark[place];
            mark[place] = v;
            return was;
        }

        int habitOf(int m, int i) {
            int at = m * MOST_PHRASES + i;
            return at >= 0 && at < habit.length ? habit[at] : 0;
        }

        void raiseHabit(int m, int i) {
            int at = m * MOST_PHRASES + i;
            if (at >= 0 && at < habit.length) {
                habit[at]++;
            }
        }

        /** What a PHRASE brings to a row's WEIGHT; 1 where rows are only counted (NONE). */
        long factorOf(int m, int i) {
            return m == NONE ? 1L : habitOf(m, i) + 1L;
        }

        /** The SLOTS that may come at a place, behind a PHRASE of slot s if it is not the first place. */
        int setAfter(int place, int s) {
            if (place == 0) {
                return beginSet;
            }
            return s >= 0 && s < SLOTS ? followSet[s] : 0;
        }

        int factOf(int i, int what) {
            switch (what) {
                case 0: return slot[i];
                case 1: return size[i];
                case 2: return morae[i];
                case 3: return code[i];
                default: return habitOf(what - 4, i);
            }
        }

        int fixedPhrase(int m, int s) {
            int fixed = NONE;
            for (int i = 0; i < phraseCount; i++) {
                if (slot[i] == s && habitOf(m, i) > 0) {
                    if (fixed != NONE) {
                        return NONE;
                    }
                    fixed = i;
                }
            }
            return fixed;
        }

        long digestOn(long start) {
            long h = start;
            for (int i = 0; i < phraseCount; i++) {
                for (int what = 0; what < FACTS_OF_PHRASE; what++) {
                    h = 31 * h + factOf(i, what);
                }
            }
            for (int k = 0; k < lineSize; k++) {
                h = 31 * h + line[k];
            }
            for (int place = 1; place < MOST_MORAE; place++) {
                h = 31 * h + mark[place];
            }
            return h;
        }
    }

    /** Where each PHRASE, set at each place, would end: of THE LINE or of THE METRE. */
    private static final class Board {
        private final Song song;
        // 0 where the PHRASE can not stand, as none ends at place 0
        private final int[] landing = new int[PLACES * MOST_PHRASES];
        // by how many: the LETTERS of THE LINE from a place on, as a code
        private final int[] piece = new int[MOST_FIGURES + 1];
        int end;

        Board(Song song) {
            this.song = song;
        }

        int landingOf(int place, int i) {
            int at = place * MOST_PHRASES + i;
            return at >= 0 && at < landing.length ? landing[at] : 0;
        }

        void layLine() {
            end = song.lineSize;
            for (int place = 0; place < end; place++) {
                cutPieces(place);
                for (int i = 0; i < song.phraseCount; i++) {
                    int size = song.size[i];
                    boolean fits = piece[size] == song.code[i];
                    landing[place * MOST_PHRASES + i] = fits ? place + size : 0;
                }
            }
        }

        private void cutPieces(int place) {
            int code = 0;
            for (int size = 1; size <= MOST_FIGURES; size++) {
                int last = place + size - 1;
                code = last < end ? code * 10 + song.line[last] : 0;
                piece[size] = code;
            }
        }

        void layMetre() {
            end = song.metreSize;
            int limit = end;
            for (int place = end - 1; place >= 0; place--) {
                if (place + 1 < end && song.mark[place + 1] == BREAK) {
                    limit = place + 1;
                }
                boolean bridge = song.mark[place] == BRIDGE;
                for (int i = 0; i < song.phraseCount; i++) {
                    int to = place + song.morae[i];
                    landing[place * MOST_PHRASES + i] = bridge || to > limit ? 0 : to;
                }
            }
        }
    }

    /** Counts, or weighs, all rows on the board and finds one of them. */
    private static final class Counter {
        private final Song song;
        private final Board board;
        // ON of each place and SLOT; at place 0 BEGINS stands for FOLLOWS
        private final long[] on = new long[PLACES * SLOTS];
        // of the place at hand: the rows on from it, by the SLOT of their first PHRASE
        private final long[] bySlot = new long[SLOTS];
        final int[] found = new int[MOST_MORAE];
        int foundSize;
        private int maker;
        private long left;

        Counter(Song song, Board board) {
            this.song = song;
            this.board = board;
        }

        /** All from the beginning, by a MAKER's HABITS or (NONE) each as 1; MUCH. */
        long countAll(int byMaker) {
            maker = byMaker;
            if (board.end < 1) {
                return 0;
            }
            for (int s = 0; s < SLOTS; s++) {
                on[board.end * SLOTS + s] = holds(song.endSet, s) ? 1 : 0;
            }
            for (int place = board.end - 1; place >= 0; place--) {
                if (!fillPlace(place)) {
                    return MUCH;
                }
            }
            return on[0];
        }

        /** False if the ON of this place and any SLOT is TOO MUCH. */
        private boolean fillPlace(int place) {
            gatherBySlot(place);
            for (int s = 0; s < SLOTS; s++) {
                long sum = 0;
                int set = song.setAfter(place, s);
                for (int next = 0; next < SLOTS; next++) {
                    if (holds(set, next)) {
                        sum = plus(sum, bySlot[next]);
                    }
                }
                if (sum < 0) {
                    return false;
                }
                on[place * SLOTS + s] = sum;
            }
            return true;
        }

        // A SLOT's sum may be TOO MUCH here and yet do no harm, if no set lets that SLOT in.
        private void gatherBySlot(int place) {
            Arrays.fill(bySlot, 0L);
            for (int i = 0; i < song.phraseCount; i++) {
                int to = board.landingOf(place, i);
                if (to > 0) {
                    int s = song.slot[i];
                    bySlot[s] = plus(bySlot[s], times(song.factorOf(maker, i), on[to * SLOTS + s]));
                }
            }
        }

        private static long plus(long a, long b) {
            if (a < 0 || b < 0) {
                return MUCH;
            }
            return a > MOST_ROWS - b ? MUCH : a + b;
        }

        private static long times(long factor, long a) {
            if (factor < 1 || a < 1) {
                return 0;
            }
            return a > MOST_ROWS / factor ? MUCH : factor * a;
        }

        /** How much of the rows from a place on, behind slot s, begins with a PHRASE; not for TOO MUCH. */
        long shareOf(int place, int s, int i) {
            int to = board.landingOf(place, i);
            if (to < 1 || !holds(song.setAfter(place, s), song.slot[i])) {
                return 0;
            }
            return times(song.factorOf(maker, i), on[to * SLOTS + song.slot[i]]);
        }

        /** Behind countAll: the first row by which all, with those ahead, is above v. */
        void findRow(long v) {
            left = v;
            foundSize = 0;
            int place = 0;
            int s = 0;
            while (place < board.end && foundSize < found.length) {
                int i = nextPhrase(place, s);
                if (i == NONE) {
                    return;
                }
                found[foundSize++] = i;
                place = board.landingOf(place, i);
                s = song.slot[i];
            }
        }

        private int nextPhrase(int place, int s) {
            for (int i = 0; i < song.phraseCount; i++) {
                long share = shareOf(place, s, i);
                if (left < share) {
                    // each row in this share holds the factor, so the rest is sought without it
                    left /= Math.max(1L, song.factorOf(maker, i));
                    return i;
                }
                left -= share;
            }
            return NONE;
        }
    }

    /** Finds the BEST of a MAKER. */
    private static final class Chooser {
        private final Song song;
        private final Board board;
        // of each place and SLOT ahead of it: the best way on to the end
        private final int[] sum = new int[PLACES * SLOTS];
        private final int[] steps = new int[PLACES * SLOTS];
        private final int[] first = new int[PLACES * SLOTS];
        final int[] chosen = new int[MOST_LETTERS];
        int chosenSize;
        private int maker;

        Chooser(Song song, Board board) {
            this.song = song;
            this.board = board;
        }

        /** False if there is no CUT. */
        boolean findBest(int byMaker) {
            maker = byMaker;
            chosenSize = 0;
            board.layLine();
            if (board.end < 1) {
                return false;
            }
            for (int s = 0; s < SLOTS; s++) {
                sum[board.end * SLOTS + s] = 0;
                steps[board.end * SLOTS + s] = holds(song.endSet, s) ? 0 : NONE;
            }
            for (int place = board.end - 1; place >= 0; place--) {
                fillPlace(place);
            }
            traceChosen();
            return chosenSize > 0;
        }

        int bestSum() {
            return sum[0];
        }

        private void fillPlace(int place) {
            for (int s = 0; s < SLOTS; s++) {
                sum[place * SLOTS + s] = 0;
                steps[place * SLOTS + s] = NONE;
                first[place * SLOTS + s] = NONE;
            }
            for (int i = 0; i < song.phraseCount; i++) {
                int to = board.landingOf(place, i);
                if (to > 0 && steps[to * SLOTS + song.slot[i]] != NONE) {
                    offerPhrase(place, i, to * SLOTS + song.slot[i]);
                }
            }
        }

        // Of like ones the PHRASE offered earlier stays: it has the lesser number.
        private void offerPhrase(int place, int i, int next) {
            int newSum = song.habitOf(maker, i) + sum[next];
            int newSteps = 1 + steps[next];
            for (int s = 0; s < SLOTS; s++) {
                int at = place * SLOTS + s;
                boolean better = steps[at] == NONE || newSum > sum[at]
                        || (newSum == sum[at] && newSteps < steps[at]);
                if (better && holds(song.setAfter(place, s), song.slot[i])) {
                    sum[at] = newSum;
                    steps[at] = newSteps;
                    first[at] = i;
                }
            }
        }

        private void traceChosen() {
            int place = 0;
            int s = 0;
            while (place < board.end && chosenSize < chosen.length) {
                int i = first[place * SLOTS + s];
                if (i == NONE) {
                    return;
                }
                chosen[chosenSize++] = i;
                place = board.landingOf(place, i);
                s = song.slot[i];
            }
        }
    }

    /** The STATES to go back to, in a ring with one room more for the song of the call at hand. */
    private static final class History {
        private final Song[] ring = new Song[MOST_STATES + 1];
        private int staged;
        int size;

        History() {
            for (int k = 0; k < ring.length; k++) {
                ring[k] = new Song();
            }
        }

        void stage(Song song) {
            ring[staged].copyFrom(song);
        }

        void keepStaged() {
            staged = staged + 1 < ring.length ? staged + 1 : 0;
            size = Math.min(size + 1, MOST_STATES);
        }

        void restoreStaged(Song song) {
            song.copyFrom(ring[staged]);
        }

        void restoreLast(Song song) {
            if (size > 0) {
                size--;
                staged = staged > 0 ? staged - 1 : ring.length - 1;
                restoreStaged(song);
            }
        }
    }

    /** THE TEXT, and the ORDER that was read last in it. */
    private static final class Text {
        private final byte[] bytes = new byte[MOST_BYTES];
        int length;
        private int at;
        int kind;
        final int[] number = new int[2];
        final int[] letters = new int[MOST_LETTERS];
        int letterCount;

        int addByte(int c) {
            if (!within(c, 0, 127)) {
                return BAD;
            }
            if (length >= MOST_BYTES) {
                return FULL;
            }
            bytes[length++] = (byte) c;
            return length;
        }

        int wipeBytes() {
            int had = length;
            length = 0;
            return had;
        }

        void rewind() {
            at = 0;
            skipBlanks();
        }

        /** The place of the FAULT; NONE if there is none. */
        int findFault() {
            rewind();
            boolean sound = at < length;
            for (int orders = 0; sound && at < length && orders < MOST_BYTES; orders++) {
                sound = readOrder();
            }
            return sound ? NONE : at;
        }

        /** False if no whole ORDER stands here: then at is the place of the first byte that can not stand. */
        boolean readOrder() {
            kind = byteHere();
            int numbers = numbersOf(kind);
            if (numbers == NONE) {
                return false;
            }
            at++;
            for (int k = 0; k < numbers; k++) {
                if (!readNumber(k)) {
                    return false;
                }
            }
            if (!readLetters()) {
                return false;
            }
            skipBlanks();
            if (byteHere() != ';') {
                return false;
            }
            at++;
            skipBlanks();
            return true;
        }

        /** How many numbers an ORDER has; NONE for what begins no ORDER. */
        private static int numbersOf(int kind) {
            switch (kind) {
                case 'l':
                    return 0;
                case 'f':
                case 'b':
                case 'e':
                case 't':
                case 's':
                case 'x':
                    return 1;
                case 'w':
                case 'k':
                    return 2;
                default:
                    return NONE;
            }
        }

        private boolean readNumber(int k) {
            skipBlanks();
            if (!isFigure(byteHere()) || !within(k, 0, number.length - 1)) {
                return false;
            }
            int value = byteHere() - '0';
            at++;
            if (isFigure(byteHere())) {
                value = value * 10 + byteHere() - '0';
                at++;
            }
            number[k] = value;
            // without this, a third figure would pass for the next number
            return !isFigure(byteHere());
        }

        private boolean readLetters() {
            letterCount = 0;
            if (kind != 'f' && kind != 'l') {
                return true;
            }
            int least = kind == 'f' ? 1 : 0;
            int most = kind == 'f' ? MOST_FIGURES : MOST_LETTERS;
            skipBlanks();
            while (within(byteHere(), 'a', 'h') && letterCount < most) {
                letters[letterCount++] = byteHere() - 'a' + 1;
                at++;
            }
            return letterCount >= least;
        }

        int lettersAsCode() {
            int code = 0;
            for (int k = 0; k < letterCount && k < MOST_FIGURES; k++) {
                code = code * 10 + letters[k];
            }
            return code;
        }

        /** The byte at hand; NONE behind the last one. */
        private int byteHere() {
            return at >= 0 && at < length ? bytes[at] : NONE;
        }

        private void skipBlanks() {
            while (at < length && bytes[at] == ' ') {
                at++;
            }
        }

        private static boolean isFigure(int c) {
            return within(c, '0', '9');
        }
    }
}
