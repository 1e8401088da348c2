/**
 * Patterns of letters that are read all at once by one machine that falls back.
 *
 * <p>A row of letters is held as one number: a leading 1, and behind it two bits for each letter.
 * So these numbers order the rows just as the states are ordered: the shorter one first, of those
 * with the same length the one that comes first by its letters.
 */
public final class FallingPatterns {

    public static final int NONE = -1;

    private static final int LETTERS = 4;
    private static final int SLOTS = 8;
    private static final int LONGEST = 8;
    private static final int MOST_STATES = 1 + SLOTS * LONGEST;
    private static final int MOST_CODES = 60;
    private static final int MOST_SAVED = 6;
    private static final int MOST_READ = 9999;
    private static final int MOST_TIMES = 200;
    private static final int DIGEST_TIMES = 9;

    private static final int NO_PATTERN = 0;
    private static final int EMPTY_ROW = 1;

    private static final int ALL_COUNT = 0;
    private static final int LONGEST_APART_COUNTS = 2;

    private static final int PATTERN_PROPERTIES = 6;
    private static final int STATE_PROPERTIES = 9;
    private static final int STATE_LEADS = 5;
    private static final int NUMBERS = 10;
    private static final int FED_NUMBERS = 4;

    private static final int FIRST_CODE = 33;
    private static final int LAST_CODE = 126;

    private static final long DIGEST_START = 2767L;
    private static final int MANTISSA_BITS = 52;
    private static final int EXPONENT_OF_ONE = 1023;

    private final Memory now;
    private final Saved saved;
    private final Machine machine;
    private final Buffer buffer;
    private final int[] draft;

    public FallingPatterns() {
        now = new Memory();
        saved = new Saved();
        machine = new Machine();
        buffer = new Buffer();
        draft = new int[SLOTS];
    }

    // ---- patterns

    public int add() throws IllegalArgumentException, IllegalStateException {
        if (!buffer.holdsPatterns()) {
            throw new IllegalArgumentException("the buffer is not complete patterns");
        }
        int added = draftPatterns();
        if (added == NONE) {
            throw new IllegalStateException("there would be more than 8 patterns");
        }
        saved.keep(now);
        for (int slot = 0; slot < SLOTS; slot++) {
            put(now.patterns, slot, at(draft, slot));
        }
        buffer.empty();
        machine.rebuild(now.patterns);
        return added;
    }

    public int remove(int pattern) throws IndexOutOfBoundsException, IllegalStateException {
        if (!isSlot(pattern)) {
            throw new IndexOutOfBoundsException("there is no such slot");
        }
        if (patternIn(pattern) == NO_PATTERN) {
            throw new IllegalStateException("the slot is empty");
        }
        saved.keep(now);
        int forgotten = at(now.counted, pattern);
        put(now.patterns, pattern, NO_PATTERN);
        now.forgetMatchesOf(pattern);
        machine.rebuild(now.patterns);
        return forgotten;
    }

    public int rule(int rule) throws IllegalArgumentException {
        if (rule < ALL_COUNT || rule > LONGEST_APART_COUNTS) {
            throw new IllegalArgumentException("rule is not 0 to 2");
        }
        saved.keep(now);
        int previous = now.rule;
        now.rule = rule;
        return previous;
    }

    // ---- reading

    public int feed(int letter) throws IllegalArgumentException, IllegalStateException {
        if (!isLetter(letter)) {
            throw new IllegalArgumentException("letter is not 0 to 3");
        }
        if (now.read >= MOST_READ) {
            throw new IllegalStateException("9999 letters were read");
        }
        saved.keep(now);
        return readLetter(letter);
    }

    public int feedAll() throws IllegalArgumentException, IllegalStateException {
        if (!buffer.holdsLetters()) {
            throw new IllegalArgumentException("the buffer is not complete letters");
        }
        if (now.read + buffer.lettersTold() > MOST_READ) {
            throw new IllegalStateException("more than 9999 letters would have been read");
        }
        saved.keep(now);
        int counting = readBuffer();
        buffer.empty();
        return counting;
    }

    public int begin() {
        saved.keep(now);
        int wereRead = now.read;
        now.forgetText();
        return wereRead;
    }

    // ---- texts

    public int append(int code) throws IllegalArgumentException, IllegalStateException {
        if (code < FIRST_CODE || code > LAST_CODE) {
            throw new IllegalArgumentException("code is not 33 to 126");
        }
        if (buffer.length >= MOST_CODES) {
            throw new IllegalStateException("the buffer has 60 characters");
        }
        buffer.take(code);
        return buffer.length;
    }

    public int clearBuffer() {
        int hadLength = buffer.length;
        buffer.empty();
        return hadLength;
    }

    public int firstError(boolean arePatterns) {
        return arePatterns ? buffer.firstErrorInPatterns() : buffer.firstErrorInLetters();
    }

    public int undo() throws IllegalStateException {
        if (saved.size == 0) {
            throw new IllegalStateException("nothing is saved");
        }
        saved.giveBack(now);
        machine.rebuild(now.patterns);
        return saved.size;
    }

    // ---- looks; nothing is changed

    public int pattern(int pattern, int what)
            throws IndexOutOfBoundsException, IllegalArgumentException {
        if (!isSlot(pattern)) {
            throw new IndexOutOfBoundsException("there is no such slot");
        }
        if (what < 0 || what >= PATTERN_PROPERTIES) {
            throw new IllegalArgumentException("what is not 0 to 5");
        }
        return patternProperty(pattern, what);
    }

    public int letter(int pattern, int place)
            throws IndexOutOfBoundsException, IllegalArgumentException {
        if (!isSlot(pattern)) {
            throw new IndexOutOfBoundsException("there is no such slot");
        }
        if (place < 0 || place >= LONGEST) {
            throw new IllegalArgumentException("place is not 0 to 7");
        }
        return Rows.letterAt(patternIn(pattern), place);
    }

    public int state(int state, int what)
            throws IndexOutOfBoundsException, IllegalArgumentException {
        if (state < 0 || state >= machine.size) {
            throw new IndexOutOfBoundsException("there is no such state");
        }
        if (what < 0 || what >= STATE_PROPERTIES) {
            throw new IllegalArgumentException("what is not 0 to 8");
        }
        return stateProperty(state, what);
    }

    public int count(int what) throws IllegalArgumentException {
        if (what < 0 || what >= NUMBERS) {
            throw new IllegalArgumentException("what is not 0 to 9");
        }
        return numberTold(what);
    }

    public int setting() {
        return now.rule;
    }

    // ---- what would be; nothing is changed

    public int ifFed(int letter, int what) throws IllegalArgumentException {
        if (!isLetter(letter)) {
            throw new IllegalArgumentException("letter is not 0 to 3");
        }
        if (what < 0 || what >= FED_NUMBERS) {
            throw new IllegalArgumentException("what is not 0 to 3");
        }
        return fedNumber(letter, what);
    }

    public int lettersTo(int pattern) throws IndexOutOfBoundsException {
        if (!isSlot(pattern)) {
            throw new IndexOutOfBoundsException("there is no such slot");
        }
        return fewestLettersTo(patternIn(pattern));
    }

    public int ifRepeated(int letter, int times) throws IllegalArgumentException {
        if (!isLetter(letter)) {
            throw new IllegalArgumentException("letter is not 0 to 3");
        }
        if (times < 1 || times > MOST_TIMES) {
            throw new IllegalArgumentException("times is not 1 to 200");
        }
        return matchesIfRepeated(letter, times);
    }

    public int heaviest() {
        int most = NONE;
        int heaviestSlot = NONE;
        for (int slot = 0; slot < SLOTS; slot++) {
            int own = statesOfItsOwn(patternIn(slot));
            if (own > most && patternIn(slot) != NO_PATTERN) {
                most = own;
                heaviestSlot = slot;
            }
        }
        return heaviestSlot == NONE ? NONE : 100 * most + heaviestSlot;
    }

    public double sharing() {
        int lengths = sumOfLengths();
        return lengths > 0 ? (double) (machine.size - 1) / (double) lengths : 1.0;
    }

    public long digest() {
        long hash = DIGEST_START;
        for (int what = 0; what < NUMBERS; what++) {
            hash = hashed(hash, numberTold(what));
        }
        hash = hashed(hash, now.rule);
        for (int slot = 0; slot < SLOTS; slot++) {
            hash = withPattern(hash, slot);
        }
        for (int state = 0; state < machine.size; state++) {
            hash = withState(hash, state);
        }
        hash = withLettersThatWouldBe(hash);
        hash = hashed(hash, heaviest());
        hash = hashed(hash, bitsOf(sharing()));
        return withBuffer(hash);
    }

    // ---- rows whose index is looked at before it is used

    private static int at(int[] row, int index) {
        return row != null && index >= 0 && index < row.length ? row[index] : 0;
    }

    private static void put(int[] row, int index, int value) {
        if (row != null && index >= 0 && index < row.length) {
            row[index] = value;
        }
    }

    // ---- patterns

    private static boolean isSlot(int slot) {
        return slot >= 0 && slot < SLOTS;
    }

    private static boolean isLetter(int letter) {
        return letter >= 0 && letter < LETTERS;
    }

    private int patternIn(int slot) {
        return at(now.patterns, slot);
    }

    /**
     * Puts the patterns in the buffer into a draft, so that nothing is changed if there are too
     * many. Returns how many are new, NONE if there would be more than 8.
     */
    private int draftPatterns() {
        for (int slot = 0; slot < SLOTS; slot++) {
            put(draft, slot, patternIn(slot));
        }
        int added = 0;
        int row = EMPTY_ROW;
        for (int index = 0; index < buffer.length; index++) {
            int code = at(buffer.codes, index);
            row = code == ';' ? EMPTY_ROW : Rows.behind(row, code - 'a');
            if (buffer.endsPart(index) && draftSlotOf(row) == NONE) {
                int slot = draftSlotOf(NO_PATTERN);
                if (slot == NONE) {
                    return NONE;
                }
                put(draft, slot, row);
                added++;
            }
        }
        return added;
    }

    /** The lowest slot of the draft that holds the row, or NO_PATTERN if that is asked for. */
    private int draftSlotOf(int row) {
        for (int slot = 0; slot < SLOTS; slot++) {
            if (at(draft, slot) == row) {
                return slot;
            }
        }
        return NONE;
    }

    private int patternProperty(int slot, int what) {
        int row = patternIn(slot);
        switch (what) {
            case 0:
                return Rows.lengthOf(row);
            case 1:
                return at(now.counted, slot);
            case 2:
                return at(now.latest, slot);
            case 3:
                return row == NO_PATTERN ? NONE : machine.stateBehind(row);
            case 4:
                return othersInside(slot);
            default:
                return othersAround(slot);
        }
    }

    private int othersInside(int slot) {
        int others = 0;
        for (int other = 0; other < SLOTS; other++) {
            if (other != slot && Rows.isPart(patternIn(other), patternIn(slot))) {
                others++;
            }
        }
        return others;
    }

    private int othersAround(int slot) {
        int others = 0;
        for (int other = 0; other < SLOTS; other++) {
            if (other != slot && Rows.isPart(patternIn(slot), patternIn(other))) {
                others++;
            }
        }
        return others;
    }

    private int patternsThatBeginWith(int row) {
        int patterns = 0;
        for (int slot = 0; slot < SLOTS; slot++) {
            int pattern = patternIn(slot);
            if (pattern != NO_PATTERN && Rows.beginsWith(pattern, row)) {
                patterns++;
            }
        }
        return patterns;
    }

    /** How many beginnings of a pattern no other pattern has. */
    private int statesOfItsOwn(int pattern) {
        int own = 0;
        int length = Rows.lengthOf(pattern);
        for (int part = 1; part <= length; part++) {
            if (patternsThatBeginWith(Rows.beginning(pattern, part)) == 1) {
                own++;
            }
        }
        return own;
    }

    private int numberOfPatterns() {
        int patterns = 0;
        for (int slot = 0; slot < SLOTS; slot++) {
            if (patternIn(slot) != NO_PATTERN) {
                patterns++;
            }
        }
        return patterns;
    }

    private int sumOfLengths() {
        int sum = 0;
        for (int slot = 0; slot < SLOTS; slot++) {
            sum += Rows.lengthOf(patternIn(slot));
        }
        return sum;
    }

    // ---- reading

    /** The state needs no memory of its own: no state is longer than the latest 8 letters. */
    private int currentState() {
        return machine.stateBehind(now.recent);
    }

    private int readLetter(int letter) {
        int from = currentState();
        int matches = matchesThatCount(machine.leadsTo(from, letter), now.read, now.last);
        now.takeFalls(machine.fallsBefore(from, letter));
        now.takeMatches(matches);
        now.recent = Rows.latest(Rows.behind(now.recent, letter));
        now.read++;
        return Integer.bitCount(matches);
    }

    /** The letter itself reads it once, so a number behind it has one time less to read it. */
    private int readBuffer() {
        int counting = 0;
        int letter = 0;
        for (int index = 0; index < buffer.length; index++) {
            int code = at(buffer.codes, index);
            if (Buffer.isLetterCode(code)) {
                letter = code - 'a';
            }
            int times = Buffer.lettersOf(code);
            for (int time = 0; time < times; time++) {
                counting += readLetter(letter);
            }
        }
        return counting;
    }

    /** The mask of the slots whose matches count, if a letter leads to the state at the place. */
    private int matchesThatCount(int state, int place, int last) {
        int mask = at(machine.ends, state);
        if (now.rule == ALL_COUNT) {
            return mask;
        }
        int longest = 0;
        int counting = 0;
        for (int slot = 0; slot < SLOTS; slot++) {
            int length = Rows.lengthOf(patternIn(slot));
            boolean isFree = now.rule != LONGEST_APART_COUNTS || place - length + 1 > last;
            if ((mask & (1 << slot)) != 0 && isFree && length > longest) {
                longest = length;
                counting = 1 << slot;
            }
        }
        return counting;
    }

    // ---- looks

    private int stateProperty(int state, int what) {
        switch (what) {
            case 0:
                return Rows.lengthOf(at(machine.rows, state));
            case 1:
                return state == 0 ? NONE : Rows.lastLetter(at(machine.rows, state));
            case 2:
                return at(machine.shorter, state);
            case 3:
                return at(machine.ends, state);
            case 4:
                return patternsThatBeginWith(at(machine.rows, state));
            default:
                return machine.leadsTo(state, what - STATE_LEADS);
        }
    }

    private int numberTold(int what) {
        switch (what) {
            case 0:
                return numberOfPatterns();
            case 1:
                return machine.size;
            case 2:
                return currentState();
            case 3:
                return now.read;
            case 4:
                return now.countedInAll;
            case 5:
                return now.last;
            case 6:
                return now.falls;
            case 7:
                return now.mostFalls;
            case 8:
                return sumOfLengths();
            default:
                return saved.size;
        }
    }

    // ---- what would be

    private int fedNumber(int letter, int what) {
        int from = currentState();
        int state = machine.leadsTo(from, letter);
        switch (what) {
            case 0:
                return state;
            case 1:
                return machine.fallsBefore(from, letter);
            case 2:
                return Integer.bitCount(matchesThatCount(state, now.read, now.last));
            default:
                return lowestSlot(matchesThatCount(state, now.read, now.last));
        }
    }

    private static int lowestSlot(int mask) {
        for (int slot = 0; slot < SLOTS; slot++) {
            if ((mask & (1 << slot)) != 0) {
                return slot;
            }
        }
        return NONE;
    }

    /** What is missing behind the longest beginning of the pattern that the state ends with. */
    private int fewestLettersTo(int pattern) {
        if (pattern == NO_PATTERN) {
            return NONE;
        }
        int row = at(machine.rows, currentState());
        int length = Rows.lengthOf(pattern);
        for (int missing = 1; missing < length; missing++) {
            if (Rows.endsWith(row, Rows.beginning(pattern, length - missing))) {
                return missing;
            }
        }
        return length;
    }

    private int matchesIfRepeated(int letter, int times) {
        int counting = 0;
        int state = currentState();
        int last = now.last;
        for (int time = 0; time < times; time++) {
            state = machine.leadsTo(state, letter);
            int matches = matchesThatCount(state, now.read + time, last);
            if (matches != 0) {
                last = now.read + time;
            }
            counting += Integer.bitCount(matches);
        }
        return counting;
    }

    // ---- the digest

    private static long hashed(long hash, long value) {
        return 31L * hash + value;
    }

    private long withPattern(long before, int slot) {
        long hash = before;
        for (int what = 0; what < PATTERN_PROPERTIES; what++) {
            hash = hashed(hash, patternProperty(slot, what));
        }
        int length = Rows.lengthOf(patternIn(slot));
        for (int place = 0; place < length; place++) {
            hash = hashed(hash, Rows.letterAt(patternIn(slot), place));
        }
        return hashed(hash, fewestLettersTo(patternIn(slot)));
    }

    private long withState(long before, int state) {
        long hash = before;
        for (int what = 0; what < STATE_PROPERTIES; what++) {
            hash = hashed(hash, stateProperty(state, what));
        }
        return hash;
    }

    private long withLettersThatWouldBe(long before) {
        long hash = before;
        for (int letter = 0; letter < LETTERS; letter++) {
            for (int what = 0; what < FED_NUMBERS; what++) {
                hash = hashed(hash, fedNumber(letter, what));
            }
        }
        for (int letter = 0; letter < LETTERS; letter++) {
            hash = hashed(hash, matchesIfRepeated(letter, DIGEST_TIMES));
        }
        return hash;
    }

    private long withBuffer(long before) {
        long hash = hashed(before, buffer.length);
        for (int index = 0; index < buffer.length; index++) {
            hash = hashed(hash, at(buffer.codes, index));
        }
        return hash;
    }

    /**
     * The bits of a share, which is above 0 and at most 1: LANGUAGE.md has no Double, and doubling
     * such a number or taking 1 from it loses nothing, so its bits can be counted out.
     */
    private static long bitsOf(double share) {
        double scaled = share;
        long exponent = EXPONENT_OF_ONE;
        for (int step = 0; step < EXPONENT_OF_ONE && scaled < 1.0; step++) {
            scaled = scaled * 2.0;
            exponent--;
        }
        long mantissa = (long) ((scaled - 1.0) * (double) (1L << MANTISSA_BITS));
        return (exponent << MANTISSA_BITS) + mantissa;
    }

    /** What can be asked of a row of letters that is held as a number. */
    private static final class Rows {

        static int lengthOf(int row) {
            int length = 0;
            while (length <= LONGEST && (row >> (2 * length)) > EMPTY_ROW) {
                length++;
            }
            return length;
        }

        static int behind(int row, int letter) {
            return (row << 2) | (letter & 3);
        }

        static int lastLetter(int row) {
            return row & 3;
        }

        static int letterAt(int row, int place) {
            int length = lengthOf(row);
            return place < length ? lastLetter(row >> (2 * (length - 1 - place))) : NONE;
        }

        static int beginning(int row, int length) {
            return row >> (2 * (lengthOf(row) - length));
        }

        static boolean beginsWith(int row, int part) {
            int more = lengthOf(row) - lengthOf(part);
            return more >= 0 && row >> (2 * more) == part;
        }

        static boolean endsWith(int row, int part) {
            int length = lengthOf(part);
            return length <= lengthOf(row) && end(row, length) == part;
        }

        static boolean isPart(int part, int row) {
            if (part == NO_PATTERN) {
                return false;
            }
            int length = lengthOf(row);
            for (int upTo = lengthOf(part); upTo <= length; upTo++) {
                if (endsWith(beginning(row, upTo), part)) {
                    return true;
                }
            }
            return false;
        }

        /** No more letters than the longest pattern can have matter for the state. */
        static int latest(int row) {
            return lengthOf(row) > LONGEST ? end(row, LONGEST) : row;
        }

        private static int end(int row, int length) {
            int leading = EMPTY_ROW << (2 * length);
            return leading | (row & (leading - 1));
        }
    }

    /** All that undo brings back. */
    private static final class Memory {

        final int[] patterns;
        final int[] counted;
        final int[] latest;
        int rule;
        int recent;
        int read;
        int countedInAll;
        int last;
        int falls;
        int mostFalls;

        Memory() {
            patterns = new int[SLOTS];
            counted = new int[SLOTS];
            latest = new int[SLOTS];
            for (int slot = 0; slot < SLOTS; slot++) {
                latest[slot] = NONE;
            }
            rule = ALL_COUNT;
            recent = EMPTY_ROW;
            last = NONE;
        }

        void copy(Memory other) {
            for (int slot = 0; slot < SLOTS; slot++) {
                put(patterns, slot, at(other.patterns, slot));
                put(counted, slot, at(other.counted, slot));
                put(latest, slot, at(other.latest, slot));
            }
            rule = other.rule;
            recent = other.recent;
            read = other.read;
            countedInAll = other.countedInAll;
            last = other.last;
            falls = other.falls;
            mostFalls = other.mostFalls;
        }

        void forgetMatchesOf(int slot) {
            put(counted, slot, 0);
            put(latest, slot, NONE);
        }

        void forgetText() {
            for (int slot = 0; slot < SLOTS; slot++) {
                forgetMatchesOf(slot);
            }
            recent = EMPTY_ROW;
            read = 0;
            countedInAll = 0;
            last = NONE;
            falls = 0;
            mostFalls = 0;
        }

        void takeFalls(int ofLetter) {
            falls += ofLetter;
            mostFalls = Math.max(mostFalls, ofLetter);
        }

        /** Counts the matches of a mask at the place that is read now. */
        void takeMatches(int mask) {
            for (int slot = 0; slot < SLOTS; slot++) {
                if ((mask & (1 << slot)) != 0) {
                    put(counted, slot, at(counted, slot) + 1);
                    put(latest, slot, read);
                    countedInAll++;
                    last = read;
                }
            }
        }
    }

    /** The latest saved memories, made once and used again in turn. */
    private static final class Saved {

        private final Memory[] memories;
        private int oldest;
        int size;

        Saved() {
            memories = new Memory[MOST_SAVED];
            for (int index = 0; index < MOST_SAVED; index++) {
                memories[index] = new Memory();
            }
        }

        void keep(Memory memory) {
            if (size == MOST_SAVED) {
                oldest = (oldest + 1) % MOST_SAVED;
                size--;
            }
            Memory free = memoryAt(size);
            if (free != null) {
                free.copy(memory);
                size++;
            }
        }

        void giveBack(Memory memory) {
            Memory latest = memoryAt(size - 1);
            if (latest != null) {
                memory.copy(latest);
                size--;
            }
        }

        /** The memory that was saved as many turns behind the oldest one. */
        private Memory memoryAt(int turn) {
            int index = (oldest + turn) % MOST_SAVED;
            return index >= 0 && index < memories.length ? memories[index] : null;
        }
    }

    /** The states of the patterns, in their order, and where letters lead from them. */
    private static final class Machine {

        final int[] rows;
        final int[] shorter;
        final int[] ends;
        private final int[] leads;
        int size;

        Machine() {
            rows = new int[MOST_STATES];
            shorter = new int[MOST_STATES];
            ends = new int[MOST_STATES];
            leads = new int[MOST_STATES * LETTERS];
            put(rows, 0, EMPTY_ROW);
            put(shorter, 0, NONE);
            size = 1;
        }

        void rebuild(int[] patterns) {
            size = 0;
            takeState(EMPTY_ROW);
            for (int slot = 0; slot < SLOTS; slot++) {
                int pattern = at(patterns, slot);
                int length = Rows.lengthOf(pattern);
                for (int part = 1; part <= length; part++) {
                    takeState(Rows.beginning(pattern, part));
                }
            }
            leadToLongerStates();
            fallBack();
            for (int state = 0; state < size; state++) {
                put(ends, state, endsOf(state, patterns));
            }
        }

        int leadsTo(int state, int letter) {
            return at(leads, state * LETTERS + letter);
        }

        /** The longest state that is an end of the row: where the machine is that has read it. */
        int stateBehind(int row) {
            int state = 0;
            int length = Rows.lengthOf(row);
            for (int place = 0; place < length; place++) {
                state = leadsTo(state, Rows.letterAt(row, place));
            }
            return state;
        }

        int fallsBefore(int state, int letter) {
            int from = state;
            for (int falls = 0; falls <= LONGEST; falls++) {
                if (goesOn(from, letter)) {
                    return falls;
                }
                if (from == 0) {
                    return falls + 1;
                }
                from = at(shorter, from);
            }
            return LONGEST + 1;
        }

        private boolean goesOn(int state, int letter) {
            return at(rows, leadsTo(state, letter)) == Rows.behind(at(rows, state), letter);
        }

        private void takeState(int row) {
            int place = size;
            while (place > 0 && at(rows, place - 1) >= row) {
                place--;
            }
            if (place < size && at(rows, place) == row) {
                return;
            }
            for (int state = size; state > place; state--) {
                put(rows, state, at(rows, state - 1));
            }
            put(rows, place, row);
            size++;
        }

        /** The states without their last letters stand in order too, so the search moves on. */
        private void leadToLongerStates() {
            for (int lead = 0; lead < leads.length; lead++) {
                leads[lead] = 0;
            }
            int without = 0;
            for (int state = 1; state < size; state++) {
                int row = at(rows, state);
                while (without < state && at(rows, without) != row >> 2) {
                    without++;
                }
                put(leads, without * LETTERS + Rows.lastLetter(row), state);
            }
        }

        /** Shorter states come first, so what a state falls back to leads on before it does. */
        private void fallBack() {
            put(shorter, 0, NONE);
            for (int state = 0; state < size; state++) {
                for (int letter = 0; letter < LETTERS; letter++) {
                    int longer = leadsTo(state, letter);
                    int fallsTo = state == 0 ? 0 : leadsTo(at(shorter, state), letter);
                    if (longer != 0) {
                        put(shorter, longer, fallsTo);
                    } else {
                        put(leads, state * LETTERS + letter, fallsTo);
                    }
                }
            }
        }

        private int endsOf(int state, int[] patterns) {
            int mask = state == 0 ? 0 : at(ends, at(shorter, state));
            for (int slot = 0; slot < SLOTS; slot++) {
                if (at(patterns, slot) == at(rows, state)) {
                    mask |= 1 << slot;
                }
            }
            return mask;
        }
    }

    /** The characters that were appended, and how they are read as a text. */
    private static final class Buffer {

        final int[] codes;
        int length;

        Buffer() {
            codes = new int[MOST_CODES];
        }

        void take(int code) {
            put(codes, length, code);
            length++;
        }

        void empty() {
            length = 0;
        }

        static boolean isLetterCode(int code) {
            return code >= 'a' && code <= 'd';
        }

        static boolean isTimesCode(int code) {
            return code >= '2' && code <= '9';
        }

        /** How many letters a character adds to a text of letters. */
        static int lettersOf(int code) {
            return isTimesCode(code) ? code - '1' : 1;
        }

        int firstErrorInPatterns() {
            int inPart = 0;
            for (int index = 0; index < length; index++) {
                int code = at(codes, index);
                if (isLetterCode(code) && inPart < LONGEST) {
                    inPart++;
                } else if (code == ';' && inPart > 0) {
                    inPart = 0;
                } else {
                    return index;
                }
            }
            return length;
        }

        int firstErrorInLetters() {
            boolean isBehindLetter = false;
            for (int index = 0; index < length; index++) {
                int code = at(codes, index);
                if (!isLetterCode(code) && !(isBehindLetter && isTimesCode(code))) {
                    return index;
                }
                isBehindLetter = isLetterCode(code);
            }
            return length;
        }

        boolean holdsPatterns() {
            return length > 0 && firstErrorInPatterns() == length && endsPart(length - 1);
        }

        boolean holdsLetters() {
            return length > 0 && firstErrorInLetters() == length;
        }

        /** Whether the character is the last one of a part of patterns. */
        boolean endsPart(int index) {
            return at(codes, index) != ';' && (index + 1 >= length || at(codes, index + 1) == ';');
        }

        int lettersTold() {
            int letters = 0;
            for (int index = 0; index < length; index++) {
                letters += lettersOf(at(codes, index));
            }
            return letters;
        }
    }
}
