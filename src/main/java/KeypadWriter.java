/** A writer on a keypad with few keys. README.md says how to use it. */
public final class KeypadWriter {
    public static final int NONE = -1;

    private static final int MAX_LETTERS = 10;
    private static final int MAX_WORDS = 50;
    private static final int MAX_COUNT = 999;
    private static final int MAX_WRITTEN = 30;
    private static final int MAX_BYTES = 150;
    private static final int MAX_BYTE = 127;
    private static final int MAX_DIGITS = 3;
    private static final int MAX_SAVED = 4;
    private static final int MAX_AGEING = 50;
    private static final int FIRST_AGEING = 10;

    private static final int SYNTAX_ERROR = -10;
    private static final int FIXED = 100;
    private static final int WORD_VALUES = 5;
    private static final int SETTINGS = 11;
    private static final long DIGEST_START = 3271L;
    private static final long DIGEST_FACTOR = 31L;

    private final ListText listText;
    private final WordList listRead;
    private final State state;
    private final SavedStates saved;
    private final Candidates candidates;

    public KeypadWriter() {
        listText = new ListText();
        listRead = new WordList();
        state = new State();
        saved = new SavedStates();
        candidates = new Candidates();
    }

    public int append(int value) throws IllegalArgumentException, IllegalStateException {
        if (value < 0 || value > MAX_BYTE) {
            throw new IllegalArgumentException("a byte is 0 to 127");
        }
        if (listText.isFull()) {
            throw new IllegalStateException("the list text has 150 bytes");
        }
        listText.addByte(value);
        return listText.length;
    }

    public int clearText() {
        int before = listText.length;
        listText.clear();
        return before;
    }

    public int load() {
        int error = listText.readInto(listRead);
        if (error != NONE) {
            return SYNTAX_ERROR - error;
        }
        saved.push(state);
        state.list.copyFrom(listRead);
        state.chosen = 0;
        return state.list.size;
    }

    public int setWays(boolean completing, int ageing) throws IllegalArgumentException {
        if (ageing < 1 || ageing > MAX_AGEING) {
            throw new IllegalArgumentException("the ageing is 1 to 50");
        }
        saved.push(state);
        int before = state.ageing;
        state.completing = completing;
        state.ageing = ageing;
        state.chosen = 0;
        return before;
    }

    public int word(int word, int what) throws IndexOutOfBoundsException, IllegalArgumentException {
        if (!state.list.has(word)) {
            throw new IndexOutOfBoundsException("the list has no such word");
        }
        if (what < 0 || what >= WORD_VALUES) {
            throw new IllegalArgumentException("a word has the values 0 to 4");
        }
        return state.list.valueOf(word, what);
    }

    public int letter(int word, int index) throws IndexOutOfBoundsException {
        if (!state.list.has(word)) {
            throw new IndexOutOfBoundsException("the list has no such word");
        }
        long letters = state.list.wordAt(word);
        if (!Slots.has(letters, index)) {
            throw new IndexOutOfBoundsException("the word has no such letter");
        }
        return Slots.letterAt(letters, index);
    }

    public int press(int key) throws IllegalArgumentException, IllegalStateException {
        if (!Keys.isKey(key)) {
            throw new IllegalArgumentException("a key is 2 to 9");
        }
        boolean repeated = state.pending == key;
        if (!repeated && state.places() >= MAX_LETTERS) {
            throw new IllegalStateException("the present word has 10 places");
        }
        saved.push(state);
        if (repeated) {
            state.turnLastPlace();
        } else {
            state.addPlace(key);
        }
        return state.places();
    }

    public int pause() {
        saved.push(state);
        int before = state.pending;
        state.pending = NONE;
        return before;
    }

    public int mode(boolean tapping) {
        saved.push(state);
        if (tapping) {
            state.present = Slots.firstOf(displayed(), state.places());
        }
        state.tapping = tapping;
        state.pending = NONE;
        state.chosen = 0;
        return state.places();
    }

    public int next() throws IllegalStateException {
        candidates.find(state);
        if (candidates.size == 0) {
            throw new IllegalStateException("there are no candidates");
        }
        saved.push(state);
        int following = state.chosen + 1;
        state.chosen = following < candidates.size ? following : 0;
        return state.chosen;
    }

    public int erase() throws IllegalStateException {
        if (state.places() == 0) {
            throw new IllegalStateException("the present word is empty");
        }
        saved.push(state);
        state.dropLastPlace();
        return state.places();
    }

    public int accept() throws IllegalStateException {
        if (state.places() == 0) {
            throw new IllegalStateException("the present word is empty");
        }
        if (state.opened == NONE && state.text.size >= MAX_WRITTEN) {
            throw new IllegalStateException("the text has 30 words");
        }
        saved.push(state);
        state.takeWord(displayed());
        return state.text.size;
    }

    public int open(int index) throws IndexOutOfBoundsException, IllegalStateException {
        if (!state.text.has(index)) {
            throw new IndexOutOfBoundsException("the text has no such word");
        }
        if (state.places() != 0 || state.opened != NONE) {
            throw new IllegalStateException("a word is being written");
        }
        saved.push(state);
        state.openWritten(index);
        return state.places();
    }

    public int setting(int what) throws IllegalArgumentException {
        if (what < 0 || what >= SETTINGS) {
            throw new IllegalArgumentException("there are the settings 0 to 10");
        }
        return settingOf(what);
    }

    public int place(int index) throws IndexOutOfBoundsException {
        if (!Slots.has(state.present, index)) {
            throw new IndexOutOfBoundsException("the present word has no such place");
        }
        return placeValue(index);
    }

    public int display(int index) throws IllegalArgumentException {
        if (index < 0) {
            throw new IllegalArgumentException("an index is not negative");
        }
        long shown = displayed();
        return Slots.has(shown, index) ? Slots.letterAt(shown, index) : NONE;
    }

    public int candidate(int index) throws IndexOutOfBoundsException {
        candidates.find(state);
        if (index < 0 || index >= candidates.size) {
            throw new IndexOutOfBoundsException("there is no such candidate");
        }
        return candidates.wordAt(index);
    }

    public int written(int index, int letter) throws IndexOutOfBoundsException {
        if (!state.text.has(index)) {
            throw new IndexOutOfBoundsException("the text has no such word");
        }
        long letters = state.text.wordAt(index);
        if (letter == NONE) {
            return Slots.lengthOf(letters);
        }
        if (!Slots.has(letters, letter)) {
            throw new IndexOutOfBoundsException("the word has no such letter");
        }
        return Slots.letterAt(letters, letter);
    }

    public int steps(int word) throws IndexOutOfBoundsException {
        if (!state.list.has(word)) {
            throw new IndexOutOfBoundsException("the list has no such word");
        }
        return state.list.stepsTo(word);
    }

    public int presses(int word, boolean tapping) throws IndexOutOfBoundsException {
        if (!state.list.has(word)) {
            throw new IndexOutOfBoundsException("the list has no such word");
        }
        return tapping ? state.list.tapsFor(word) : state.list.guessesFor(word);
    }

    public int clashing() {
        return state.list.clashes();
    }

    public double saving() {
        return state.list.savingOfAll();
    }

    public int shortest(int word) throws IndexOutOfBoundsException {
        if (!state.list.has(word)) {
            throw new IndexOutOfBoundsException("the list has no such word");
        }
        long keys = state.list.keysAt(word);
        int length = Slots.lengthOf(keys);
        for (int pressed = 1; pressed <= length; pressed++) {
            if (Candidates.firstWith(state.list, Slots.firstOf(keys, pressed)) == word) {
                return pressed;
            }
        }
        return NONE;
    }

    public int undo() throws IllegalStateException {
        if (saved.size == 0) {
            throw new IllegalStateException("there is no saved state");
        }
        saved.popInto(state);
        return saved.size;
    }

    public long digest() {
        long hash = mixed(DIGEST_START, listText.length);
        for (int what = 0; what < SETTINGS; what++) {
            hash = mixed(hash, settingOf(what));
        }
        for (int word = 0; word < state.list.size; word++) {
            hash = mixedWord(hash, word);
        }
        int places = state.places();
        for (int index = 0; index < places; index++) {
            hash = mixed(hash, placeValue(index));
        }
        hash = mixedLetters(hash, displayed());
        for (int index = 0; index < state.text.size; index++) {
            long letters = state.text.wordAt(index);
            hash = mixed(hash, Slots.lengthOf(letters));
            hash = mixedLetters(hash, letters);
        }
        return mixed(hash, saved.size);
    }

    private long mixedWord(long hash, int word) {
        long mixture = hash;
        for (int what = 0; what < WORD_VALUES; what++) {
            mixture = mixed(mixture, state.list.valueOf(word, what));
        }
        mixture = mixedLetters(mixture, state.list.wordAt(word));
        return mixed(mixture, state.list.stepsTo(word));
    }

    private static long mixedLetters(long hash, long letters) {
        long mixture = hash;
        int length = Slots.lengthOf(letters);
        for (int index = 0; index < length; index++) {
            mixture = mixed(mixture, Slots.letterAt(letters, index));
        }
        return mixture;
    }

    private static long mixed(long hash, int value) {
        return DIGEST_FACTOR * hash + value;
    }

    private int settingOf(int what) {
        switch (what) {
            case 0: return state.list.size;
            case 1: return state.clock;
            case 2: return state.ageing;
            case 3: return state.completing ? 1 : 0;
            case 4: return state.tapping ? 1 : 0;
            case 5: return state.pending;
            case 6: return state.places();
            case 7:
                candidates.find(state);
                return candidates.size;
            case 8:
                candidates.find(state);
                return candidates.size > 0 ? state.chosen : NONE;
            case 9: return state.text.size;
            case 10: return state.opened;
            default: return NONE;
        }
    }

    private int placeValue(int index) {
        int code = Slots.codeAt(state.present, index);
        return Slots.isLetter(code) ? FIXED + Slots.letterOf(code) : Slots.keyOf(code);
    }

    private long displayed() {
        if (!state.tapping) {
            candidates.find(state);
            if (candidates.size > 0) {
                return state.list.wordAt(candidates.wordAt(state.chosen));
            }
        }
        return Slots.firstLetters(state.present);
    }

    /**
     * A row of up to ten letters or keys in one long, six bits each, the first one highest, zeros behind the last
     * one: two words are then equal if their numbers are, and their alphabetical order is that of their numbers.
     */
    private static final class Slots {
        private static final long EMPTY = 0L;
        private static final int BITS = 6;
        private static final int TOP_SHIFT = BITS * (MAX_LETTERS - 1);
        private static final long MASK = 63L;
        private static final int LAST_LETTER = 26;
        // Keys stand above the letters, so that a code tells which of both it is.
        private static final int KEY_BASE = 30;

        static int codeOfLetter(int letter) {
            return letter + 1;
        }

        static int codeOfKey(int key) {
            return KEY_BASE + key;
        }

        static boolean isLetter(int code) {
            return code >= 1 && code <= LAST_LETTER;
        }

        static int letterOf(int code) {
            return code - 1;
        }

        static int keyOf(int code) {
            return code - KEY_BASE;
        }

        static int codeAt(long row, int index) {
            return index >= 0 && index < MAX_LETTERS ? (int) ((row >>> (TOP_SHIFT - BITS * index)) & MASK) : 0;
        }

        static int letterAt(long row, int index) {
            return letterOf(codeAt(row, index));
        }

        static boolean has(long row, int index) {
            return codeAt(row, index) != 0;
        }

        static int lengthOf(long row) {
            int length = 0;
            while (length < MAX_LETTERS && codeAt(row, length) != 0) {
                length++;
            }
            return length;
        }

        /** The row with the code at the index; a code beyond ten slots is left out. */
        static long with(long row, int index, int code) {
            if (index < 0 || index >= MAX_LETTERS) {
                return row;
            }
            int shift = TOP_SHIFT - BITS * index;
            return (row & ~(MASK << shift)) | ((long) code << shift);
        }

        static long firstOf(long row, int length) {
            long first = EMPTY;
            for (int index = 0; index < length && index < MAX_LETTERS; index++) {
                first = with(first, index, codeAt(row, index));
            }
            return first;
        }

        static long keysOf(long letters) {
            long keys = EMPTY;
            int length = lengthOf(letters);
            for (int index = 0; index < length; index++) {
                keys = with(keys, index, codeOfKey(Keys.keyWith(letterAt(letters, index))));
            }
            return keys;
        }

        /** The row with the first letter of each key in the place of the key. */
        static long firstLetters(long places) {
            long letters = EMPTY;
            int length = lengthOf(places);
            for (int index = 0; index < length; index++) {
                int code = codeAt(places, index);
                int shown = isLetter(code) ? code : codeOfLetter(Keys.firstLetter(keyOf(code)));
                letters = with(letters, index, shown);
            }
            return letters;
        }
    }

    /** The keys 2 to 9 and their letters, 0 for "a" to 25. */
    private static final class Keys {
        private static final int FIRST = 2;
        private static final int LAST = 9;
        private static final int[] KEY_OF_LETTER = {
            2, 2, 2, 3, 3, 3, 4, 4, 4, 5, 5, 5, 6, 6, 6, 7, 7, 7, 7, 8, 8, 8, 9, 9, 9, 9
        };
        private static final int[] FIRST_LETTER_FROM_KEY_2 = {0, 3, 6, 9, 12, 15, 19, 22};

        static boolean isKey(int key) {
            return key >= FIRST && key <= LAST;
        }

        static int keyWith(int letter) {
            return letter >= 0 && letter < KEY_OF_LETTER.length ? KEY_OF_LETTER[letter] : NONE;
        }

        static int firstLetter(int key) {
            return isKey(key) ? FIRST_LETTER_FROM_KEY_2[key - FIRST] : 0;
        }

        static int letterBehind(int letter) {
            int key = keyWith(letter);
            return keyWith(letter + 1) == key ? letter + 1 : firstLetter(key);
        }

        /** How many taps the letter needs: its place on its key, from 1. */
        static int tapsOf(int letter) {
            return letter - firstLetter(keyWith(letter)) + 1;
        }
    }

    /** The words of the list with their counts, times and kinds, and what they cost. */
    private static final class WordList {
        private final long[] words = new long[MAX_WORDS];
        // Kept beside the words, since the costs compare the keys of all pairs of words.
        private final long[] keys = new long[MAX_WORDS];
        private final int[] counts = new int[MAX_WORDS];
        private final int[] times = new int[MAX_WORDS];
        private final boolean[] added = new boolean[MAX_WORDS];
        private int size;

        void clear() {
            size = 0;
        }

        void copyFrom(WordList other) {
            System.arraycopy(other.words, 0, words, 0, MAX_WORDS);
            System.arraycopy(other.keys, 0, keys, 0, MAX_WORDS);
            System.arraycopy(other.counts, 0, counts, 0, MAX_WORDS);
            System.arraycopy(other.times, 0, times, 0, MAX_WORDS);
            // LANGUAGE.md's rule 4 is plain about copying rows of numbers alone.
            for (int word = 0; word < MAX_WORDS; word++) {
                added[word] = other.added[word];
            }
            size = other.size;
        }

        boolean has(int word) {
            return word >= 0 && word < size && word < MAX_WORDS;
        }

        boolean isFull() {
            return size >= MAX_WORDS;
        }

        long wordAt(int word) {
            return has(word) ? words[word] : Slots.EMPTY;
        }

        long keysAt(int word) {
            return has(word) ? keys[word] : Slots.EMPTY;
        }

        int countAt(int word) {
            return has(word) ? counts[word] : 0;
        }

        int timeAt(int word) {
            return has(word) ? times[word] : 0;
        }

        boolean isAdded(int word) {
            return has(word) && added[word];
        }

        int valueOf(int word, int what) {
            switch (what) {
                case 0: return Slots.lengthOf(wordAt(word));
                case 1: return countAt(word);
                case 2: return timeAt(word);
                case 3: return isAdded(word) ? 1 : 0;
                case 4: return rankOf(word);
                default: return NONE;
            }
        }

        int find(long letters) {
            for (int word = 0; word < size; word++) {
                if (wordAt(word) == letters) {
                    return word;
                }
            }
            return NONE;
        }

        boolean ranksBefore(int word, int other) {
            if (!has(word) || !has(other)) {
                return false;
            }
            if (counts[word] != counts[other]) {
                return counts[word] > counts[other];
            }
            if (times[word] != times[other]) {
                return times[word] > times[other];
            }
            return words[word] < words[other];
        }

        int rankOf(int word) {
            int rank = 0;
            for (int other = 0; other < size; other++) {
                if (ranksBefore(other, word)) {
                    rank++;
                }
            }
            return rank;
        }

        /** Whether each place is the letter of the word there, or the key of this letter. */
        boolean beginsWith(int word, long places) {
            long letters = wordAt(word);
            long itsKeys = keysAt(word);
            for (int index = 0; index < MAX_LETTERS; index++) {
                int code = Slots.codeAt(places, index);
                if (code == 0) {
                    return true;
                }
                if (code != Slots.codeAt(letters, index) && code != Slots.codeAt(itsKeys, index)) {
                    return false;
                }
            }
            return true;
        }

        /** Puts a new word behind the others, if there is room for it. */
        void insert(long letters, int count, int time, boolean isAdded) {
            if (isFull()) {
                return;
            }
            words[size] = letters;
            keys[size] = Slots.keysOf(letters);
            counts[size] = count;
            times[size] = time;
            added[size] = isAdded;
            size++;
        }

        void remove(int word) {
            if (!has(word)) {
                return;
            }
            for (int from = word + 1; from < size; from++) {
                int to = from - 1;
                words[to] = words[from];
                keys[to] = keys[from];
                counts[to] = counts[from];
                times[to] = times[from];
                added[to] = added[from];
            }
            size--;
        }

        void countUse(long letters, int time) {
            int word = find(letters);
            if (has(word)) {
                counts[word] = Math.min(counts[word] + 1, MAX_COUNT);
                times[word] = time;
                return;
            }
            if (isFull()) {
                remove(lastAdded());
            }
            insert(letters, 1, time, true);
        }

        /** The added word that comes last in the ranking, or NONE. */
        private int lastAdded() {
            int last = NONE;
            for (int word = 0; word < size; word++) {
                if (isAdded(word) && (last == NONE || ranksBefore(last, word))) {
                    last = word;
                }
            }
            return last;
        }

        void ageAllBut(long letters) {
            // From behind, since the numbers behind a word that leaves change.
            for (int word = size - 1; word >= 0; word--) {
                if (isAdded(word) && wordAt(word) != letters) {
                    counts[word]--;
                    if (counts[word] <= 0) {
                        remove(word);
                    }
                }
            }
        }

        int stepsTo(int word) {
            int steps = 0;
            for (int other = 0; other < size; other++) {
                if (keysAt(other) == keysAt(word) && ranksBefore(other, word)) {
                    steps++;
                }
            }
            return steps;
        }

        int guessesFor(int word) {
            return Slots.lengthOf(wordAt(word)) + stepsTo(word);
        }

        int tapsFor(int word) {
            long letters = wordAt(word);
            long itsKeys = keysAt(word);
            int length = Slots.lengthOf(letters);
            int taps = 0;
            for (int index = 0; index < length; index++) {
                taps += Keys.tapsOf(Slots.letterAt(letters, index));
                if (index > 0 && Slots.codeAt(itsKeys, index) == Slots.codeAt(itsKeys, index - 1)) {
                    taps++;
                }
            }
            return taps;
        }

        int clashes() {
            int clashes = 0;
            for (int word = 0; word < size; word++) {
                if (sharesKeys(word)) {
                    clashes++;
                }
            }
            return clashes;
        }

        private boolean sharesKeys(int word) {
            for (int other = 0; other < size; other++) {
                if (other != word && keysAt(other) == keysAt(word)) {
                    return true;
                }
            }
            return false;
        }

        double savingOfAll() {
            long saved = 0;
            long tapped = 0;
            for (int word = 0; word < size; word++) {
                long count = countAt(word);
                long taps = tapsFor(word);
                saved += count * (taps - guessesFor(word));
                tapped += count * taps;
            }
            return tapped == 0 ? 0.0 : (double) saved / (double) tapped;
        }
    }

    /** The order of the candidates: those as long as the present word, then longer ones, each group by rank. */
    private static final class Candidates {
        private final int[] order = new int[MAX_WORDS];
        private int size;

        void find(State state) {
            size = 0;
            int length = state.places();
            if (length == 0) {
                return;
            }
            WordList list = state.list;
            for (int word = 0; word < list.size; word++) {
                boolean longer = Slots.has(list.wordAt(word), length);
                if ((state.completing || !longer) && list.beginsWith(word, state.present)) {
                    insert(list, word, length);
                }
            }
        }

        int wordAt(int number) {
            return number >= 0 && number < size && number < MAX_WORDS ? order[number] : NONE;
        }

        private void insert(WordList list, int word, int length) {
            if (size >= MAX_WORDS) {
                return;
            }
            int number = size;
            while (number > 0 && comesBefore(list, word, order[number - 1], length)) {
                order[number] = order[number - 1];
                number--;
            }
            order[number] = word;
            size++;
        }

        /** The word that would be the first candidate for the places if completing were on, or NONE. */
        static int firstWith(WordList list, long places) {
            int length = Slots.lengthOf(places);
            int first = NONE;
            for (int word = 0; word < list.size; word++) {
                if (list.beginsWith(word, places)
                        && (first == NONE || comesBefore(list, word, first, length))) {
                    first = word;
                }
            }
            return first;
        }

        private static boolean comesBefore(WordList list, int word, int other, int length) {
            boolean longer = Slots.has(list.wordAt(word), length);
            if (longer != Slots.has(list.wordAt(other), length)) {
                return !longer;
            }
            return list.ranksBefore(word, other);
        }
    }

    /** The words that were written. */
    private static final class WrittenText {
        private final long[] words = new long[MAX_WRITTEN];
        private int size;

        void copyFrom(WrittenText other) {
            System.arraycopy(other.words, 0, words, 0, MAX_WRITTEN);
            size = other.size;
        }

        boolean has(int index) {
            return index >= 0 && index < size && index < MAX_WRITTEN;
        }

        long wordAt(int index) {
            return has(index) ? words[index] : Slots.EMPTY;
        }

        void addWord(long letters) {
            if (size < MAX_WRITTEN) {
                words[size] = letters;
                size++;
            }
        }

        void replace(int index, long letters) {
            if (has(index)) {
                words[index] = letters;
            }
        }

        void remove(int index) {
            if (!has(index)) {
                return;
            }
            for (int from = index + 1; from < size; from++) {
                words[from - 1] = words[from];
            }
            size--;
        }
    }

    /** All that undo() brings back. */
    private static final class State {
        private final WordList list = new WordList();
        private final WrittenText text = new WrittenText();
        private int clock;
        private int ageing = FIRST_AGEING;
        private boolean completing;
        private boolean tapping;
        private int pending = NONE;
        private long present = Slots.EMPTY;
        private int chosen;
        private int opened = NONE;

        void copyFrom(State other) {
            list.copyFrom(other.list);
            text.copyFrom(other.text);
            clock = other.clock;
            ageing = other.ageing;
            completing = other.completing;
            tapping = other.tapping;
            pending = other.pending;
            present = other.present;
            chosen = other.chosen;
            opened = other.opened;
        }

        int places() {
            return Slots.lengthOf(present);
        }

        void addPlace(int key) {
            if (tapping) {
                present = Slots.with(present, places(), Slots.codeOfLetter(Keys.firstLetter(key)));
                pending = key;
            } else {
                present = Slots.with(present, places(), Slots.codeOfKey(key));
            }
            chosen = 0;
        }

        void turnLastPlace() {
            int last = places() - 1;
            int letter = Keys.letterBehind(Slots.letterAt(present, last));
            present = Slots.with(present, last, Slots.codeOfLetter(letter));
            chosen = 0;
        }

        void dropLastPlace() {
            present = Slots.firstOf(present, places() - 1);
            pending = NONE;
            chosen = 0;
            if (present == Slots.EMPTY && opened != NONE) {
                text.remove(opened);
                opened = NONE;
            }
        }

        void openWritten(int index) {
            present = text.wordAt(index);
            opened = index;
            chosen = 0;
        }

        void takeWord(long letters) {
            clock++;
            list.countUse(letters, clock);
            if (ageing > 0 && clock % ageing == 0) {
                list.ageAllBut(letters);
            }
            if (opened == NONE) {
                text.addWord(letters);
            } else {
                text.replace(opened, letters);
            }
            present = Slots.EMPTY;
            pending = NONE;
            chosen = 0;
            opened = NONE;
        }
    }

    /** The states from before the latest undoable calls, the oldest one first. */
    private static final class SavedStates {
        private final State[] states = new State[MAX_SAVED];
        private int size;

        SavedStates() {
            for (int index = 0; index < MAX_SAVED; index++) {
                states[index] = new State();
            }
        }

        void push(State state) {
            if (size >= MAX_SAVED) {
                dropOldest();
            }
            State free = stateAt(size);
            if (free != null) {
                free.copyFrom(state);
                size++;
            }
        }

        void popInto(State state) {
            State latest = stateAt(size - 1);
            if (latest != null) {
                state.copyFrom(latest);
                size--;
            }
        }

        private State stateAt(int index) {
            return index >= 0 && index < MAX_SAVED ? states[index] : null;
        }

        private void dropOldest() {
            // The dropped object goes behind the others, to be filled again: no call makes a new one.
            State oldest = states[0];
            for (int index = 1; index < MAX_SAVED; index++) {
                states[index - 1] = states[index];
            }
            states[MAX_SAVED - 1] = oldest;
            size--;
        }
    }

    /** The text that word lists are read from. */
    private static final class ListText {
        private final int[] bytes = new int[MAX_BYTES];
        private int length;
        private int position;

        boolean isFull() {
            return length >= MAX_BYTES;
        }

        void clear() {
            length = 0;
        }

        void addByte(int value) {
            if (!isFull()) {
                bytes[length] = value;
                length++;
            }
        }

        /** Fills the list with the items of the text; returns the syntax error position, or NONE. */
        int readInto(WordList list) {
            list.clear();
            position = 0;
            for (int item = 0; item <= MAX_WORDS && position < length; item++) {
                if (!readItem(list)) {
                    return position;
                }
            }
            return NONE;
        }

        /** Reads an item; if there is none, the position is then that of the syntax error. */
        private boolean readItem(WordList list) {
            int start = position;
            if (list.isFull()) {
                return false;
            }
            long letters = readWord();
            if (letters == Slots.EMPTY || byteHere() != ',') {
                return false;
            }
            if (list.find(letters) != NONE) {
                position = start;
                return false;
            }
            position++;
            int count = readCount();
            if (count == NONE || byteHere() != ';') {
                return false;
            }
            position++;
            list.insert(letters, count, 0, false);
            return true;
        }

        private long readWord() {
            long letters = Slots.EMPTY;
            for (int index = 0; index < MAX_LETTERS && isHere('a', 'z'); index++) {
                letters = Slots.with(letters, index, Slots.codeOfLetter(byteHere() - 'a'));
                position++;
            }
            return letters;
        }

        private int readCount() {
            if (!isHere('0', '9')) {
                return NONE;
            }
            int count = 0;
            for (int digits = 0; digits < MAX_DIGITS && isHere('0', '9'); digits++) {
                count = 10 * count + byteHere() - '0';
                position++;
            }
            return count;
        }

        private boolean isHere(int from, int to) {
            int here = byteHere();
            return here >= from && here <= to;
        }

        /** The byte at the position, or NONE at the end of the text. */
        private int byteHere() {
            return position >= 0 && position < length && position < MAX_BYTES ? bytes[position] : NONE;
        }
    }
}
