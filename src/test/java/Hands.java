/** What a person at the keypad does in several calls, and reads from it in several calls. */
final class Hands {
    static final Class<IllegalArgumentException> ARGUMENT = IllegalArgumentException.class;
    static final Class<IllegalStateException> STATE = IllegalStateException.class;
    static final Class<IndexOutOfBoundsException> INDEX = IndexOutOfBoundsException.class;

    static final int LENGTH = 0;
    static final int COUNT = 1;
    static final int TIME = 2;
    static final int ADDED = 3;
    static final int RANK = 4;

    static final int WORDS = 0;
    static final int CLOCK = 1;
    static final int AGEING = 2;
    static final int COMPLETING = 3;
    static final int TAPPING = 4;
    static final int PENDING = 5;
    static final int PLACES = 6;
    static final int CANDIDATES = 7;
    static final int CHOSEN = 8;
    static final int WRITTEN = 9;
    static final int OPENED = 10;

    private Hands() {
    }

    static KeypadWriter writerWith(String listText) {
        KeypadWriter writer = new KeypadWriter();
        load(writer, listText);
        return writer;
    }

    /** Replaces the list text by this one and loads it. */
    static int load(KeypadWriter writer, String listText) {
        writer.clearText();
        for (int i = 0; i < listText.length(); i++) {
            writer.append(listText.charAt(i));
        }
        return writer.load();
    }

    static void type(KeypadWriter writer, String keys) {
        for (int i = 0; i < keys.length(); i++) {
            writer.press(keys.charAt(i) - '0');
        }
    }

    static int write(KeypadWriter writer, String keys) {
        type(writer, keys);
        return writer.accept();
    }

    static String shown(KeypadWriter writer) {
        StringBuilder letters = new StringBuilder();
        for (int i = 0; writer.display(i) != KeypadWriter.NONE; i++) {
            letters.append((char) ('a' + writer.display(i)));
        }
        return letters.toString();
    }

    static String wordAt(KeypadWriter writer, int word) {
        StringBuilder letters = new StringBuilder();
        int length = writer.word(word, LENGTH);
        for (int i = 0; i < length; i++) {
            letters.append((char) ('a' + writer.letter(word, i)));
        }
        return letters.toString();
    }

    /** The words of the list, each with its count, its time and its kind: "ad/5/0/given be/1/7/added". */
    static String listed(KeypadWriter writer) {
        StringBuilder all = new StringBuilder();
        int words = writer.setting(WORDS);
        for (int word = 0; word < words; word++) {
            all.append(word == 0 ? "" : " ").append(wordAt(writer, word));
            all.append('/').append(writer.word(word, COUNT)).append('/').append(writer.word(word, TIME));
            all.append(writer.word(word, ADDED) == 1 ? "/added" : "/given");
        }
        return all.toString();
    }

    static String candidates(KeypadWriter writer) {
        StringBuilder all = new StringBuilder();
        int count = writer.setting(CANDIDATES);
        for (int i = 0; i < count; i++) {
            all.append(i == 0 ? "" : " ").append(wordAt(writer, writer.candidate(i)));
        }
        return all.toString();
    }

    static String places(KeypadWriter writer) {
        StringBuilder all = new StringBuilder();
        int count = writer.setting(PLACES);
        for (int i = 0; i < count; i++) {
            int place = writer.place(i);
            all.append(place >= 100 ? (char) ('a' + place - 100) : (char) ('0' + place));
        }
        return all.toString();
    }

    static String text(KeypadWriter writer) {
        StringBuilder all = new StringBuilder();
        int count = writer.setting(WRITTEN);
        for (int i = 0; i < count; i++) {
            all.append(i == 0 ? "" : " ");
            int length = writer.written(i, KeypadWriter.NONE);
            for (int j = 0; j < length; j++) {
                all.append((char) ('a' + writer.written(i, j)));
            }
        }
        return all.toString();
    }

    /** How many states can be restored; takes them all away. */
    static int savedStates(KeypadWriter writer) {
        int restored = 0;
        for (int i = 0; i < 10; i++) {
            try {
                writer.undo();
                restored++;
            } catch (IllegalStateException e) {
                return restored;
            }
        }
        return restored;
    }
}
