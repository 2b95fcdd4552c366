/**
 * A hidden machine that says of every word whether it is good, and the smallest machine that says
 * the same. Words are numbers: a 1 is put before the letters and all is read as binary digits, so
 * that a smaller number is a shorter word or, of equally long ones, the one that has 0 first.
 */
public final class LearnDesk {
    private static final int STATES = 7;
    private static final int LETTERS = 2;
    private static final int ARROWS = 14;

    private static final int EMPTY_WORD = 1;
    private static final int LAST_WORD = 4095;
    private static final int MOST_LETTERS = 11;

    // Each letter more that telling states apart takes splits off at least one more group of
    // states, and two groups are there with the empty word: so seven states, if they can be told
    // apart at all, can be by a word of at most five letters. Those are the words below 64, and a
    // long has a bit for each.
    private static final int TELLING_WORDS = 64;

    private static final int DONE = 0;
    private static final int NO_DIFFERENCE = 0;
    private static final int REFUSED = -1;
    private static final int NO_KIND = -1;

    private final int[] arrowEnd = new int[ARROWS];
    private final boolean[] stateGood = new boolean[STATES];

    // Bit w is set if the word w, read from the state on, ends in a good state. Words that end in
    // states with the same row of bits are alike.
    private final long[] outcomes = new long[STATES];

    // By the kind's number: its first word, and the state where that word ends.
    private final int[] kindWord = new int[STATES];
    private final int[] kindState = new int[STATES];
    private int kindCount;

    public LearnDesk() {
        for (int state = 0; state < STATES; state++) {
            for (int letter = 0; letter < LETTERS; letter++) {
                arrowEnd[LETTERS * state + letter] = state;
            }
        }
        findKinds();
    }

    public int arrow(int from, int letter, int to) {
        if (!isState(from) || !isState(to)) {
            return REFUSED;
        }
        arrowEnd[LETTERS * from + (letter & 1)] = to;
        findKinds();
        return DONE;
    }

    public int good(int state, boolean good) {
        if (!isState(state)) {
            return REFUSED;
        }
        stateGood[state] = good;
        findKinds();
        return DONE;
    }

    public int ask(int word) {
        if (!isWord(word)) {
            return REFUSED;
        }
        int end = stateAfter(0, word);
        return stateGood[end] ? 1 : 0;
    }

    public int kinds() {
        return kindCount;
    }

    public int kind(int word) {
        if (!isWord(word)) {
            return REFUSED;
        }
        int end = stateAfter(0, word);
        return kindOfState(end);
    }

    public int first(int kind) {
        return isKind(kind) ? kindWord[kind] : REFUSED;
    }

    public int next(int kind, int letter) {
        if (!isKind(kind)) {
            return REFUSED;
        }
        int end = arrowEnd[LETTERS * kindState[kind] + (letter & 1)];
        return kindOfState(end);
    }

    public int isGood(int kind) {
        if (!isKind(kind)) {
            return REFUSED;
        }
        return stateGood[kindState[kind]] ? 1 : 0;
    }

    public int difference(int word, int other) {
        if (!isWord(word) || !isWord(other)) {
            return REFUSED;
        }
        int end = stateAfter(0, word);
        int otherEnd = stateAfter(0, other);
        long unlike = outcomes[end] ^ outcomes[otherEnd];
        for (int behind = EMPTY_WORD; behind < TELLING_WORDS; behind++) {
            if (((unlike >>> behind) & 1L) != 0L) {
                return behind;
            }
        }
        return NO_DIFFERENCE;
    }

    private static boolean isState(int number) {
        return number >= 0 && number < STATES;
    }

    private static boolean isWord(int number) {
        return number >= EMPTY_WORD && number <= LAST_WORD;
    }

    private boolean isKind(int number) {
        return number >= 0 && number < kindCount;
    }

    private int stateAfter(int from, int word) {
        int state = from;
        for (int place = MOST_LETTERS - 1; place >= 0; place--) {
            int upToPlace = word >> place;
            // 1 is the digit put before the letters, and 0 is what stands before that one.
            if (upToPlace > 1) {
                state = arrowEnd[LETTERS * state + (upToPlace & 1)];
            }
        }
        return state;
    }

    // Kinds are numbered in the order in which they are found here: a first word without its last
    // letter is a first word too, so going on from the kinds in their order, with 0 before 1,
    // meets each kind at its first word and the first words from the smallest up.
    private void findKinds() {
        findOutcomes();
        kindCount = 0;
        addIfNew(0, EMPTY_WORD);
        for (int kind = 0; kind < STATES && kind < kindCount; kind++) {
            for (int letter = 0; letter < LETTERS; letter++) {
                int end = arrowEnd[LETTERS * kindState[kind] + letter];
                addIfNew(end, LETTERS * kindWord[kind] + letter);
            }
        }
    }

    private void findOutcomes() {
        for (int state = 0; state < STATES; state++) {
            long seen = 0L;
            for (int word = EMPTY_WORD; word < TELLING_WORDS; word++) {
                int end = stateAfter(state, word);
                if (stateGood[end]) {
                    seen |= 1L << word;
                }
            }
            outcomes[state] = seen;
        }
    }

    private void addIfNew(int state, int word) {
        int known = kindOfState(state);
        if (known != NO_KIND || kindCount >= STATES) {
            return;
        }
        kindWord[kindCount] = word;
        kindState[kindCount] = state;
        kindCount++;
    }

    private int kindOfState(int state) {
        for (int kind = 0; kind < kindCount; kind++) {
            if (outcomes[kindState[kind]] == outcomes[state]) {
                return kind;
            }
        }
        return NO_KIND;
    }
}
