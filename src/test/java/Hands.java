import java.util.ArrayList;
import java.util.Comparator;
import java.util.List;

/** What a person at the keypad does in several calls, and reads from it in several calls. */
final class Hands {
    static final Class<IllegalArgumentException> ARGUMENT = IllegalArgumentException.class;
    static final Class<IllegalStateException> STATE = IllegalStateException.class;
    static final Class<IndexOutOfBoundsException> INDEX = IndexOutOfBoundsException.class;

    static final int LENGTH = 0;
    static final int COUNT = 1;
    static final int TIME = 2;
    static final int ADDED = 3;
    static final int RANK = 4;

    static final int WORDS = 0;
    static final int CLOCK = 1;
    static final int AGEING = 2;
    static final int COMPLETING = 3;
    static final int TAPPING = 4;
    static final int PENDING = 5;
    static final int PLACES = 6;
    static final int CANDIDATES = 7;
    static final int CHOSEN = 8;
    static final int WRITTEN = 9;
    static final int OPENED = 10;

    static final String[] KEYS = {"", "", "abc", "def", "ghi", "jkl", "mno", "pqrs", "tuv", "wxyz"};

    private Hands() {
    }

    static KeypadWriter writerWith(String listText) {
        KeypadWriter writer = new KeypadWriter();
        load(writer, listText);
        return writer;
    }

    /** Replaces the list text by this one and loads it. */
    static int load(KeypadWriter writer, String listText) {
        writer.clearText();
        for (int i = 0; i < listText.length(); i++) {
            writer.append(listText.charAt(i));
        }
        return writer.load();
    }

    static void type(KeypadWriter writer, String keys) {
        for (int i = 0; i < keys.length(); i++) {
            writer.press(keys.charAt(i) - '0');
        }
    }

    static int write(KeypadWriter writer, String keys) {
        type(writer, keys);
        return writer.accept();
    }

    static void append(KeypadWriter writer, String bytes) {
        for (int i = 0; i < bytes.length(); i++) {
            writer.append(bytes.charAt(i));
        }
    }

    /** Taps the letters in the tapping mode, with pause() where a letter is on the key of the one before it. */
    static void tap(KeypadWriter writer, String letters) {
        for (int i = 0; i < letters.length(); i++) {
            int key = keyOf(letters.charAt(i));
            if (i > 0 && key == keyOf(letters.charAt(i - 1))) {
                writer.pause();
            }
            int taps = KEYS[key].indexOf(letters.charAt(i)) + 1;
            for (int tap = 0; tap < taps; tap++) {
                writer.press(key);
            }
        }
    }

    static int keyOf(char letter) {
        for (int key = 2; key <= 9; key++) {
            if (KEYS[key].indexOf(letter) >= 0) {
                return key;
            }
        }
        throw new AssertionError(letter);
    }

    /**
     * A writer with the full list of 50 words: 35 given ones, which 149 bytes tell ("a" to "z" with the count 7, "aa"
     * to "ai" with 1 to 9), and 15 added ones, each used once ("da" is the oldest, "gt" the newest one). Ages at 50.
     * The document binds no more than 512 calls of an object: here some 200 have been made.
     */
    static KeypadWriter writerWithFullList() {
        KeypadWriter writer = writerWith(longestList());
        writer.setWays(false, 50);
        for (String keys : new String[] {"32", "33", "34", "35", "36", "37", "38", "39"}) {
            write(writer, keys);
        }
        for (String keys : new String[] {"42", "43", "44", "45", "46", "47", "48"}) {
            write(writer, keys);
        }
        return writer;
    }

    /** The list text of 35 words, more than which 150 bytes can't tell; it has 149 bytes. */
    static String longestList() {
        StringBuilder text = new StringBuilder();
        for (char letter = 'a'; letter <= 'z'; letter++) {
            text.append(letter).append(",7;");
        }
        return text.append("aa,1;ab,2;ac,3;ad,4;ae,5;af,6;ag,7;ah,8;ai,9;").toString();
    }

    /**
     * A writer with the full list of 50 words on the keys 777: 25 given ones with the count 5, and 25 added ones, each
     * used once, which need the fewest taps ("ppp" is the oldest one). It is in the guessing mode; some 370 of its 512
     * calls have been made.
     */
    static KeypadWriter writerWithClashingWords() {
        List<String> words = wordsOf777();
        KeypadWriter writer = writerWith(String.join(",5;", words.subList(25, 50)) + ",5;");
        writer.setWays(false, 50);
        writer.mode(true);
        for (String word : words.subList(0, 25)) {
            tap(writer, word);
            writer.accept();
        }
        writer.mode(false);
        return writer;
    }

    /** The words on the keys 777, those with the fewest taps first, equal ones alphabetically. */
    static List<String> wordsOf777() {
        List<String> words = new ArrayList<>();
        for (int code = 0; code < 64; code++) {
            words.add("" + "pqrs".charAt(code / 16) + "pqrs".charAt(code / 4 % 4) + "pqrs".charAt(code % 4));
        }
        words.sort(Comparator.comparingInt(word -> word.charAt(0) + word.charAt(1) + word.charAt(2)));
        return words;
    }

    /** A writer whose text has this many words, "a", "d", "g" .. "w", "a" and so on; none of them ages. */
    static KeypadWriter writerWithText(int words) {
        KeypadWriter writer = new KeypadWriter();
        writer.setWays(false, 50);
        for (int i = 0; i < words; i++) {
            writer.press(2 + i % 8);
            writer.accept();
        }
        return writer;
    }

    static String shown(KeypadWriter writer) {
        StringBuilder letters = new StringBuilder();
        for (int i = 0; writer.display(i) != KeypadWriter.NONE; i++) {
            letters.append((char) ('a' + writer.display(i)));
        }
        return letters.toString();
    }

    static String wordAt(KeypadWriter writer, int word) {
        StringBuilder letters = new StringBuilder();
        int length = writer.word(word, LENGTH);
        for (int i = 0; i < length; i++) {
            letters.append((char) ('a' + writer.letter(word, i)));
        }
        return letters.toString();
    }

    /** The words of the list, each with its count, its time and its kind: "ad/5/0/given be/1/7/added". */
    static String listed(KeypadWriter writer) {
        StringBuilder all = new StringBuilder();
        int words = writer.setting(WORDS);
        for (int word = 0; word < words; word++) {
            all.append(word == 0 ? "" : " ").append(wordAt(writer, word));
            all.append('/').append(writer.word(word, COUNT)).append('/').append(writer.word(word, TIME));
            all.append(writer.word(word, ADDED) == 1 ? "/added" : "/given");
        }
        return all.toString();
    }

    static String candidates(KeypadWriter writer) {
        StringBuilder all = new StringBuilder();
        int count = writer.setting(CANDIDATES);
        for (int i = 0; i < count; i++) {
            all.append(i == 0 ? "" : " ").append(wordAt(writer, writer.candidate(i)));
        }
        return all.toString();
    }

    static String places(KeypadWriter writer) {
        StringBuilder all = new StringBuilder();
        int count = writer.setting(PLACES);
        for (int i = 0; i < count; i++) {
            int place = writer.place(i);
            all.append(place >= 100 ? (char) ('a' + place - 100) : (char) ('0' + place));
        }
        return all.toString();
    }

    static String text(KeypadWriter writer) {
        StringBuilder all = new StringBuilder();
        int count = writer.setting(WRITTEN);
        for (int i = 0; i < count; i++) {
            all.append(i == 0 ? "" : " ");
            int length = writer.written(i, KeypadWriter.NONE);
            for (int j = 0; j < length; j++) {
                all.append((char) ('a' + writer.written(i, j)));
            }
        }
        return all.toString();
    }

    /** How many states can be restored; takes them all away. */
    static int savedStates(KeypadWriter writer) {
        int restored = 0;
        for (int i = 0; i < 10; i++) {
            try {
                writer.undo();
                restored++;
            } catch (IllegalStateException e) {
                return restored;
            }
        }
        return restored;
    }
}
