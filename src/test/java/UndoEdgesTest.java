import java.util.function.Consumer;

/** Promises 25 and 26 at their edges: which calls save a state, how many are kept, what they hold; the digest. */
final class UndoEdgesTest {
    private static final String[] NAMES = {
        "4: load()", "5: setWays()", "8: press()", "9: pause()", "10: mode(true)", "10: mode(false)", "11: next()",
        "12: erase()", "13: accept()"
    };

    private UndoEdgesTest() {
    }

    public static void main(String[] args) {
        eachUndoableCall();
        callsThatChangeNothing();
        otherCallsSaveNothing();
        refusedCallsSaveNothing();
        fourStates();
        fifthCallDropsTheOldest();
        undoOfNone();
        undoOfUndo();
        allOfTheState();
        kindsOfWords();
        listTextIsNotSaved();
        savedStatesAreCopies();
        manyRounds();
        digestOfEmpty();
        digestOfTheFullList();
        digestOfSavedStates();
        digestOfNegativeValues();
        Checks.finish("UndoEdgesTest");
    }

    /** A call by its number in NAMES; all of them can be made on a word that is tapped. */
    private static void call(KeypadWriter writer, int number) {
        switch (number) {
            case 0: writer.load(); break;
            case 1: writer.setWays(false, 3); break;
            case 2: writer.press(2); break;
            case 3: writer.pause(); break;
            case 4: writer.mode(true); break;
            case 5: writer.mode(false); break;
            case 6: writer.next(); break;
            case 7: writer.erase(); break;
            default: writer.accept(); break;
        }
    }

    /** A writer that taps over an opened word, with candidate 1 of 3; 3 states are saved. */
    private static KeypadWriter tapper() {
        KeypadWriter writer = Hands.writerWith("adga,5;adgaa,3;adgab,2;");
        writer.setWays(true, 7);
        Hands.write(writer, "33");
        Hands.write(writer, "45");
        writer.mode(true);
        writer.open(0);
        writer.erase();
        writer.erase();
        Hands.tap(writer, "ad");
        writer.accept();
        writer.open(1);
        Hands.tap(writer, "ga");
        writer.next();
        return withThreeSaved(writer);
    }

    /** A call that is undone leaves the writer as it was, but for the oldest of 4 saved states. */
    private static KeypadWriter withThreeSaved(KeypadWriter writer) {
        writer.pause();
        writer.undo();
        return writer;
    }

    private static void eachUndoableCall() {
        KeypadWriter tapper = tapper();
        Checks.due("25: the word before", "adga", Hands.places(tapper));
        Checks.due("25: the opened word before", 1, tapper.setting(Hands.OPENED));
        Checks.due("25: the candidate before", 1, tapper.setting(Hands.CHOSEN));
        Checks.due("25: of three", 3, tapper.setting(Hands.CANDIDATES));
        Checks.due("25: the pending key before", 2, tapper.setting(Hands.PENDING));
        Checks.due("25: the text before", "gj ad", Hands.text(tapper));
        Checks.due("25: saved states before", 3, Hands.savedStates(tapper));
        for (int number = 0; number < NAMES.length; number++) {
            int called = number;
            Twins.undone(NAMES[number], UndoEdgesTest::tapper, writer -> call(writer, called));
        }
        Twins.undone("14: open()", UndoEdgesTest::reader, writer -> writer.open(1));
        Twins.undone("8: press() of the pending key", UndoEdgesTest::tapper, writer -> writer.press(2));
        Twins.undone("12: erase() of an opened word", UndoEdgesTest::opener, KeypadWriter::erase);
        Twins.undone("13: accept() of a new word", UndoEdgesTest::opener, KeypadWriter::accept);
    }

    private static KeypadWriter reader() {
        return withThreeSaved(Hands.writerWithText(3));
    }

    private static KeypadWriter opener() {
        KeypadWriter writer = Hands.writerWithText(1);
        writer.load();
        writer.open(0);
        return withThreeSaved(writer);
    }

    private static void callsThatChangeNothing() {
        saves("4: load() of the same list", Hands.writerWith("a,5;"), KeypadWriter::load);
        saves("4: load() of no items into an empty list", new KeypadWriter(), KeypadWriter::load);
        saves("5: setWays() with the same ways", new KeypadWriter(), writer -> writer.setWays(false, 10));
        saves("9: pause() without a key", new KeypadWriter(), KeypadWriter::pause);
        saves("10: mode() that there is", new KeypadWriter(), writer -> writer.mode(false));
        KeypadWriter writer = Hands.writerWith("a,5;");
        writer.press(2);
        saves("11: next() of one", writer, KeypadWriter::next);
    }

    /** The call must change nothing but the number of saved states. */
    private static void saves(String what, KeypadWriter writer, Consumer<KeypadWriter> call) {
        long before = writer.digest();
        call.accept(writer);
        Checks.due("25: saves one state: " + what, before + 1, writer.digest());
        writer.undo();
        Checks.due("25: is undone: " + what, before, writer.digest());
    }

    private static void otherCallsSaveNothing() {
        Twins.asked("2: append() and what is taken back of it", UndoEdgesTest::tapper, writer -> {
            writer.clearText();
            Hands.append(writer, "adga,5;adgaa,3;adgab,2;");
        });
        KeypadWriter writer = new KeypadWriter();
        writer.append('a');
        Checks.refused("25: append() saves no state", Hands.STATE, writer::undo);
        writer.load();
        Checks.refused("25: load() with a syntax error saves none", Hands.STATE, writer::undo);
        writer.clearText();
        Checks.refused("25: clearText() saves none", Hands.STATE, writer::undo);
    }

    private static void refusedCallsSaveNothing() {
        KeypadWriter writer = new KeypadWriter();
        Checks.refused("25: a wrong key", Hands.ARGUMENT, () -> writer.press(1));
        Checks.refused("25: a wrong ageing", Hands.ARGUMENT, () -> writer.setWays(true, 0));
        Checks.refused("25: no candidates", Hands.STATE, writer::next);
        Checks.refused("25: no places", Hands.STATE, writer::erase);
        Checks.refused("25: no word", Hands.STATE, writer::accept);
        Checks.refused("25: no word of the text", Hands.INDEX, () -> writer.open(0));
        Checks.refused("25: none of them saved a state", Hands.STATE, writer::undo);
    }

    private static void fourStates() {
        for (int calls = 0; calls <= 6; calls++) {
            KeypadWriter writer = new KeypadWriter();
            for (int call = 0; call < calls; call++) {
                writer.press(2);
            }
            int kept = Math.min(calls, 4);
            for (int undone = 1; undone <= kept; undone++) {
                Checks.due("25: remain of " + calls, kept - undone, writer.undo());
                Checks.due("25: places of " + calls, calls - undone, writer.setting(Hands.PLACES));
            }
            Checks.refused("25: no more of " + calls, Hands.STATE, writer::undo);
            Checks.due("25: the oldest of " + calls, calls - kept, writer.setting(Hands.PLACES));
        }
    }

    private static void fifthCallDropsTheOldest() {
        for (int number = 0; number < NAMES.length; number++) {
            KeypadWriter writer = tapper();
            writer.setWays(true, 20);
            long[] digests = new long[4];
            for (int state = 0; state < 4; state++) {
                writer.setWays(true, 21 + state);
                digests[state] = writer.digest();
            }
            call(writer, number);
            Checks.due("25: behind a fifth state, " + NAMES[number], 3, writer.undo());
            for (int state = 3; state >= 1; state--) {
                // The digest then was of four saved states, and there are as many as the state's number now.
                Checks.due("25: state " + state + " behind " + NAMES[number], digests[state] - (4 - state),
                    writer.digest());
                Checks.due("25: remain behind " + NAMES[number], state - 1, writer.undo());
            }
            Checks.due("25: the oldest kept one behind " + NAMES[number], digests[0] - 4, writer.digest());
            Checks.refused("25: the dropped one behind " + NAMES[number], Hands.STATE, writer::undo);
        }
    }

    private static void undoOfNone() {
        Twins.refused("25: undo of a new writer", KeypadWriter::new, Hands.STATE, KeypadWriter::undo);
        KeypadWriter writer = new KeypadWriter();
        writer.press(2);
        Checks.due("25: the only state", 0, writer.undo());
        Checks.refused("25: none is left", Hands.STATE, writer::undo);
        Checks.refused("25: none is left still", Hands.STATE, writer::undo);
        writer.press(3);
        Checks.due("25: a new one", 0, writer.undo());
    }

    private static void undoOfUndo() {
        KeypadWriter writer = new KeypadWriter();
        Hands.type(writer, "234");
        writer.undo();
        writer.undo();
        Checks.due("25: undo() is not undone by undo()", 0, writer.undo());
        Checks.due("25: but goes on", 0, writer.setting(Hands.PLACES));
    }

    private static void allOfTheState() {
        KeypadWriter writer = Hands.writerWith("ad,5;be,5;adz,1;");
        writer.setWays(true, 9);
        Hands.write(writer, "23");
        Hands.write(writer, "45");
        writer.open(1);
        writer.mode(true);
        writer.press(2);
        writer.erase();
        writer.erase();
        writer.press(5);
        writer.pause();
        writer.press(5);
        long before = writer.digest();
        String listed = Hands.listed(writer);
        writer.accept();
        writer.load();
        writer.setWays(false, 1);
        writer.mode(false);
        for (int left = 3; left >= 0; left--) {
            writer.undo();
        }
        Checks.due("25: the words, their counts, times and kinds", listed, Hands.listed(writer));
        int[] settings = {4, 2, 9, 1, 1, 5, 3, 0, -1, 2, 1};
        for (int what = 0; what < settings.length; what++) {
            Checks.due("25: setting " + what, settings[what], writer.setting(what));
        }
        Checks.due("25: the places", "gjj", Hands.places(writer));
        Checks.due("25: the text", "ad gj", Hands.text(writer));
        Checks.due("25: all but the number of saved states", before - 4, writer.digest());
    }

    private static void kindsOfWords() {
        KeypadWriter writer = new KeypadWriter();
        Hands.write(writer, "2");
        Hands.load(writer, "a,5;d,6;");
        Checks.due("25: word 0 is a given one", 0, writer.word(0, Hands.ADDED));
        writer.undo();
        Checks.due("25: word 0 is an added one again", "a/1/1/added", Hands.listed(writer));
        Hands.load(writer, "g,5;");
        Hands.load(writer, "");
        Hands.write(writer, "3");
        Checks.due("25: word 0 is added", "d/1/2/added", Hands.listed(writer));
        writer.undo();
        writer.undo();
        writer.undo();
        Checks.due("25: word 0 is given again", "g/5/0/given", Hands.listed(writer));
        writer.undo();
        Checks.due("25: word 0 is an added one once more", "a/1/1/added", Hands.listed(writer));
        KeypadWriter full = Hands.writerWithFullList();
        full.load();
        full.undo();
        Checks.due("25: word 34 of 50 is given", 0, full.word(34, Hands.ADDED));
        Checks.due("25: word 35 of 50 is added", 1, full.word(35, Hands.ADDED));
        Checks.due("25: word 49 of 50 is added", 1, full.word(49, Hands.ADDED));
        Checks.due("25: with its time", 15, full.word(49, Hands.TIME));
    }

    private static void listTextIsNotSaved() {
        KeypadWriter writer = Hands.writerWith("a,5;");
        Hands.append(writer, "d,6;");
        writer.undo();
        Checks.due("25: the list text has grown", 2, writer.load());
        writer.clearText();
        Checks.due("25: undo of the second load()", 0, writer.undo());
        Checks.due("25: the list text is empty", 0, writer.clearText());
        Checks.due("25: and so is the list", 0, writer.setting(Hands.WORDS));
    }

    private static void savedStatesAreCopies() {
        KeypadWriter writer = Hands.writerWith("a,5;");
        writer.press(2);
        writer.accept();
        writer.undo();
        writer.next();
        writer.accept();
        Checks.due("25: the count increased once", "a/6/1/given", Hands.listed(writer));
        writer.undo();
        writer.undo();
        Checks.due("25: the state before both", "a/5/0/given", Hands.listed(writer));
        Checks.due("25: without a text", 0, writer.setting(Hands.WRITTEN));
        writer.accept();
        Checks.due("25: accepted once more", "a/6/1/given", Hands.listed(writer));
    }

    /** Up to the 512th call: undo() and new calls take turns. */
    private static void manyRounds() {
        KeypadWriter writer = new KeypadWriter();
        for (int round = 0; round < 51; round++) {
            for (int call = 0; call < 5; call++) {
                writer.press(2 + (round + call) % 8);
            }
            for (int left = 3; left >= 0; left--) {
                Checks.due("25: round " + round, left, writer.undo());
            }
            Checks.due("25: one place is left in round " + round, 0, writer.erase());
        }
        Checks.due("25: the last erase() is undone", 0, writer.undo());
        Checks.due("25: call 512", 1, writer.setting(Hands.PLACES));
    }

    private static long digestOf(int... values) {
        long hash = 3271;
        for (int value : values) {
            hash = 31 * hash + value;
        }
        return hash;
    }

    private static void digestOfEmpty() {
        KeypadWriter writer = new KeypadWriter();
        writer.append(0);
        Checks.due("26: the length of the list text", digestOf(1, 0, 0, 10, 0, 0, -1, 0, 0, -1, 0, -1, 0),
            writer.digest());
        writer.clearText();
        writer.mode(true);
        Checks.due("26: the mode and a saved state", digestOf(0, 0, 0, 10, 0, 1, -1, 0, 0, -1, 0, -1, 1),
            writer.digest());
        writer.press(9);
        Checks.due("26: a letter", digestOf(0, 0, 0, 10, 0, 1, 9, 1, 0, -1, 0, -1, 122, 22, 2), writer.digest());
        writer.mode(false);
        writer.press(9);
        Checks.due("26: a letter and a key", digestOf(0, 0, 0, 10, 0, 0, -1, 2, 0, -1, 0, -1, 122, 9, 22, 22, 4),
            writer.digest());
    }

    private static void digestOfTheFullList() {
        KeypadWriter writer = Hands.writerWithFullList();
        long hash = digestOf(149, 50, 15, 50, 0, 0, -1, 0, 0, -1, 15, -1);
        for (int word = 0; word < 50; word++) {
            int length = word < 26 ? 1 : 2;
            int[] values = {length, writer.word(word, Hands.COUNT), writer.word(word, Hands.TIME), word < 35 ? 0 : 1,
                writer.word(word, Hands.RANK)};
            for (int value : values) {
                hash = 31 * hash + value;
            }
            for (int index = 0; index < length; index++) {
                hash = 31 * hash + writer.letter(word, index);
            }
            // The letters of a key clash by the alphabet; of "aa" to "ai" those with the higher counts come first.
            hash = 31 * hash + (word < 35 ? stepsOfGiven(word) : 0);
        }
        int[] letters = {0, 3, 6, 9, 12, 15, 19, 22};
        for (int word = 0; word < 15; word++) {
            hash = 31 * (31 * (31 * hash + 2) + (word < 8 ? 3 : 6)) + letters[word % 8];
        }
        Checks.due("26: the full list", 31 * hash + 4, writer.digest());
    }

    private static int stepsOfGiven(int word) {
        if (word >= 26) {
            return 2 - (word - 26) % 3;
        }
        char letter = (char) ('a' + word);
        return Hands.KEYS[Hands.keyOf(letter)].indexOf(letter);
    }

    private static void digestOfSavedStates() {
        KeypadWriter writer = new KeypadWriter();
        for (int saved = 0; saved <= 6; saved++) {
            Checks.due("26: saved states behind " + saved + " calls",
                digestOf(0, 0, 0, 10, 0, 0, -1, 0, 0, -1, 0, -1, Math.min(saved, 4)), writer.digest());
            writer.pause();
        }
    }

    private static void digestOfNegativeValues() {
        KeypadWriter writer = Hands.writerWith("b,3;");
        writer.press(2);
        Checks.due("26: NONE counts as -1",
            digestOf(4, 1, 0, 10, 0, 0, -1, 1, 1, 0, 0, -1, 1, 3, 0, 0, 0, 1, 0, 2, 1, 2), writer.digest());
        writer.accept();
        writer.open(0);
        Checks.due("26: and the opened word as its number",
            digestOf(4, 1, 1, 10, 0, 0, -1, 1, 1, 0, 1, 0, 1, 4, 1, 0, 0, 1, 0, 101, 1, 1, 1, 4), writer.digest());
    }
}
