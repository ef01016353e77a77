/** Promises 8 to 14: press, pause, mode, next, erase, accept, open. */
final class WritingTest {
    private WritingTest() {
    }

    public static void main(String[] args) {
        pressGuessing();
        pressTapping();
        pause();
        mode();
        modeWithLongerDisplay();
        next();
        erase();
        acceptCounts();
        acceptPlaces();
        acceptAges();
        acceptAgesFewTimes();
        acceptIntoFullList("z,0;");
        acceptIntoFullList("");
        open();
        openedWordLeaves();
        Checks.finish("WritingTest");
    }

    private static void pressGuessing() {
        KeypadWriter writer = Hands.writerWith("ad,5;be,5;");
        Checks.due("8: the first key", 1, writer.press(2));
        Checks.due("8: the second key", 2, writer.press(3));
        writer.next();
        Checks.due("8: the second candidate", "be", Hands.shown(writer));
        writer.undo();
        writer.undo();
        Checks.due("8: undo takes the key away", "2", Hands.places(writer));
        Checks.refusedBy(writer, "8: key 1", Hands.ARGUMENT, () -> writer.press(1));
        Checks.refusedBy(writer, "8: key 10", Hands.ARGUMENT, () -> writer.press(10));
        Checks.refusedBy(writer, "8: key NONE", Hands.ARGUMENT, () -> writer.press(KeypadWriter.NONE));
        Hands.type(writer, "223456789");
        Checks.due("8: ten places", "2223456789", Hands.places(writer));
        Checks.due("8: no pending key in the guessing mode", -1, writer.setting(Hands.PENDING));
        Checks.refusedBy(writer, "8: an eleventh place", Hands.STATE, () -> writer.press(9));
        Checks.refused("8: a wrong key behind ten places", Hands.ARGUMENT, () -> writer.press(0));
        KeypadWriter chooser = Hands.writerWith("a,5;b,4;adz,2;aez,1;");
        chooser.setWays(true, 10);
        chooser.press(2);
        chooser.next();
        chooser.press(3);
        Checks.due("8: the first candidate is chosen", 0, chooser.setting(Hands.CHOSEN));
    }

    private static void pressTapping() {
        KeypadWriter writer = new KeypadWriter();
        writer.mode(true);
        String[] shown = {"p", "q", "r", "s", "p"};
        for (String letter : shown) {
            Checks.due("8: places of " + letter, 1, writer.press(7));
            Checks.due("8: tapped", letter, Hands.shown(writer));
        }
        Checks.due("8: another key adds a place", 2, writer.press(9));
        Checks.due("8: fixed first letters", "pw", Hands.places(writer));
        Checks.due("8: the pending key", 9, writer.setting(Hands.PENDING));
        Hands.type(writer, "999");
        Checks.due("8: four letters on 9", "pz", Hands.shown(writer));
        Hands.type(writer, "9");
        Checks.due("8: around on 9", "pw", Hands.shown(writer));
        Hands.type(writer, "23456783");
        Checks.due("8: ten places tapped", "pwadgjmptd", Hands.shown(writer));
        Checks.due("8: the pending key moves on at ten", 10, writer.press(3));
        Checks.due("8: the tenth letter", "pwadgjmpte", Hands.shown(writer));
        Checks.refusedBy(writer, "8: another key at ten", Hands.STATE, () -> writer.press(2));
        writer.pause();
        Checks.refusedBy(writer, "8: the same key at ten behind pause", Hands.STATE, () -> writer.press(3));
        KeypadWriter chooser = Hands.writerWith("a,5;b,4;ad,3;ae,2;be,1;bf,1;");
        chooser.setWays(true, 10);
        chooser.mode(true);
        chooser.press(2);
        chooser.next();
        chooser.press(2);
        Checks.due("8: a tap on the pending key chooses the first", 0, chooser.setting(Hands.CHOSEN));
        Checks.due("8: candidates for b", "b be bf", Hands.candidates(chooser));
    }

    private static void pause() {
        KeypadWriter writer = Hands.writerWith("aa,5;aab,4;aac,3;");
        Checks.due("9: nothing pending", -1, writer.pause());
        writer.setWays(true, 10);
        writer.mode(true);
        writer.press(2);
        writer.next();
        Checks.due("9: the pending key", 2, writer.pause());
        Checks.due("9: it is taken away", -1, writer.setting(Hands.PENDING));
        Checks.due("9: the chosen one stays", 1, writer.setting(Hands.CHOSEN));
        Checks.due("9: pause again", -1, writer.pause());
        Checks.due("9: the key then adds a place", 2, writer.press(2));
        writer.undo();
        writer.undo();
        Checks.due("9: pause without a key is undoable", -1, writer.setting(Hands.PENDING));
        writer.undo();
        Checks.due("9: pause is undoable", 2, writer.setting(Hands.PENDING));
    }

    private static void mode() {
        KeypadWriter writer = Hands.writerWith("ad,5;be,5;");
        Hands.type(writer, "23");
        writer.next();
        Checks.due("10: to tapping", 2, writer.mode(true));
        Checks.due("10: the display is fixed", "be", Hands.places(writer));
        Checks.due("10: the first candidate is chosen", 0, writer.setting(Hands.CHOSEN));
        Checks.due("10: candidates go on", "be", Hands.candidates(writer));
        Checks.due("10: no pending key", -1, writer.setting(Hands.PENDING));
        writer.press(3);
        Checks.due("10: to tapping again", 3, writer.mode(true));
        Checks.due("10: no pending key again", -1, writer.setting(Hands.PENDING));
        writer.press(3);
        Checks.due("10: to guessing", 4, writer.mode(false));
        Checks.due("10: no pending key in guessing", -1, writer.setting(Hands.PENDING));
        Checks.due("10: the mode", 0, writer.setting(Hands.TAPPING));
        Checks.due("10: the letters stay fixed", "bedd", Hands.places(writer));
        writer.press(4);
        Checks.due("10: keys behind fixed letters", "bedd4", Hands.places(writer));
        Checks.due("10: first letters without candidates", "beddg", Hands.shown(writer));
        writer.undo();
        writer.undo();
        Checks.due("10: mode is undoable", 1, writer.setting(Hands.TAPPING));
        Checks.due("10: the pending key is back", 3, writer.setting(Hands.PENDING));
        KeypadWriter empty = new KeypadWriter();
        Checks.due("10: an empty present word", 0, empty.mode(true));
        Checks.due("10: saves a state", 1, Hands.savedStates(empty));
        KeypadWriter chooser = Hands.writerWith("ad,5;be,5;");
        Hands.type(chooser, "23");
        chooser.next();
        chooser.mode(false);
        Checks.due("10: guessing to guessing chooses the first", 0, chooser.setting(Hands.CHOSEN));
        Checks.due("10: guessing to guessing keeps the keys", "23", Hands.places(chooser));
    }

    private static void modeWithLongerDisplay() {
        KeypadWriter writer = Hands.writerWith("being,5;");
        writer.setWays(true, 10);
        Hands.type(writer, "23");
        Checks.due("10: the completed display", "being", Hands.shown(writer));
        Checks.due("10: as many letters as places", 2, writer.mode(true));
        Checks.due("10: the first letters of the display", "be", Hands.places(writer));
        Checks.due("10: candidates are not displayed", "be", Hands.shown(writer));
        Checks.due("10: but there are some", "being", Hands.candidates(writer));
        writer.mode(false);
        Checks.due("10: displayed in guessing", "being", Hands.shown(writer));
    }

    private static void next() {
        KeypadWriter writer = Hands.writerWith("ad,5;be,5;cf,9;adz,99;");
        Checks.refusedBy(writer, "11: next of an empty word", Hands.STATE, writer::next);
        Hands.type(writer, "23");
        Checks.due("11: the first candidate", "cf", Hands.shown(writer));
        Checks.due("11: next", 1, writer.next());
        Checks.due("11: the second candidate", "ad", Hands.shown(writer));
        Checks.due("11: next again", 2, writer.next());
        Checks.due("11: the third candidate", "be", Hands.shown(writer));
        Checks.due("11: around", 0, writer.next());
        writer.undo();
        Checks.due("11: next is undoable", 2, writer.setting(Hands.CHOSEN));
        writer.mode(true);
        Checks.due("11: one candidate", 0, writer.next());
        Hands.type(writer, "5");
        Checks.refusedBy(writer, "11: next without candidates", Hands.STATE, writer::next);
        KeypadWriter tapper = Hands.writerWith("ad,5;adz,4;ade,3;");
        tapper.setWays(true, 10);
        tapper.mode(true);
        Hands.type(tapper, "23");
        Checks.due("11: next in the tapping mode", 1, tapper.next());
        Checks.due("11: moved on", 1, tapper.setting(Hands.CHOSEN));
        Checks.due("11: not displayed", "ad", Hands.shown(tapper));
        Checks.due("11: the pending key stays", 3, tapper.setting(Hands.PENDING));
    }

    private static void erase() {
        KeypadWriter writer = Hands.writerWith("a,5;b,5;c,5;ad,4;");
        Checks.refusedBy(writer, "12: erase of an empty word", Hands.STATE, writer::erase);
        Hands.type(writer, "23");
        Checks.due("12: one place left", 1, writer.erase());
        Checks.due("12: the left place", "2", Hands.places(writer));
        writer.next();
        Hands.type(writer, "3");
        writer.erase();
        Checks.due("12: the first candidate is chosen", 0, writer.setting(Hands.CHOSEN));
        Checks.due("12: no place left", 0, writer.erase());
        Checks.due("12: the empty display", "", Hands.shown(writer));
        Checks.due("12: no candidates", 0, writer.setting(Hands.CANDIDATES));
        writer.undo();
        Checks.due("12: erase is undoable", "2", Hands.places(writer));
        writer.mode(true);
        Hands.type(writer, "33");
        Checks.due("12: erase in the tapping mode", 1, writer.erase());
        Checks.due("12: no pending key", -1, writer.setting(Hands.PENDING));
        KeypadWriter chooser = Hands.writerWith("ad,5;be,4;adz,3;aez,3;adx,1;");
        chooser.setWays(true, 10);
        Hands.type(chooser, "239");
        chooser.next();
        chooser.next();
        chooser.erase();
        Checks.due("12: erase chooses the first", 0, chooser.setting(Hands.CHOSEN));
    }

    private static void acceptCounts() {
        KeypadWriter writer = Hands.writerWith("ad,998;be,0;");
        Checks.refusedBy(writer, "13: accept of an empty word", Hands.STATE, writer::accept);
        Checks.due("13: one word", 1, Hands.write(writer, "23"));
        Checks.due("13: its count and time", "ad/999/1/given be/0/0/given", Hands.listed(writer));
        Checks.due("13: the present word is empty", 0, writer.setting(Hands.PLACES));
        Checks.due("13: two words", 2, Hands.write(writer, "23"));
        Checks.due("13: not above 999", "ad/999/2/given be/0/0/given", Hands.listed(writer));
        Hands.type(writer, "23");
        writer.next();
        Checks.due("13: the chosen candidate", 3, writer.accept());
        Checks.due("13: be is used", "ad/999/2/given be/1/3/given", Hands.listed(writer));
        Hands.write(writer, "45");
        Checks.due("13: a new word", "ad/999/2/given be/1/3/given gj/1/4/added", Hands.listed(writer));
        Hands.write(writer, "45");
        Checks.due("13: an added word stays added", "ad/999/2/given be/1/3/given gj/2/5/added", Hands.listed(writer));
        Checks.due("13: the text", "ad ad be gj gj", Hands.text(writer));
        writer.undo();
        Checks.due("13: accept is undoable, the list", "ad/999/2/given be/1/3/given gj/1/4/added",
            Hands.listed(writer));
        Checks.due("13: the clock", 4, writer.setting(Hands.CLOCK));
        Checks.due("13: the text before", "ad ad be gj", Hands.text(writer));
        Checks.due("13: the present word before", "45", Hands.places(writer));
    }

    private static void acceptPlaces() {
        KeypadWriter writer = Hands.writerWith("being,5;ab,1;");
        writer.setWays(true, 10);
        Hands.write(writer, "23");
        Checks.due("13: a completed word", "being", Hands.text(writer));
        writer.mode(true);
        Hands.write(writer, "2344");
        Checks.due("13: a tapped word", "being adh", Hands.text(writer));
        Checks.due("13: no pending key", -1, writer.setting(Hands.PENDING));
        Checks.due("13: the mode stays", 1, writer.setting(Hands.TAPPING));
        writer.open(0);
        Checks.due("13: as many words as before", 2, Hands.write(writer, "7777"));
        Checks.due("13: at the place of the opened word", "beings adh", Hands.text(writer));
        Checks.due("13: no opened word", -1, writer.setting(Hands.OPENED));
        KeypadWriter full = new KeypadWriter();
        for (int words = 1; words <= 30; words++) {
            Checks.due("13: words of the text", words, Hands.write(full, "2"));
        }
        full.press(2);
        Checks.refusedBy(full, "13: a 31st word", Hands.STATE, full::accept);
        full.erase();
        full.open(29);
        Checks.due("13: an opened word of 30", 30, Hands.write(full, "3"));
        Checks.due("13: the last of 30", 2, full.written(29, KeypadWriter.NONE));
        full.open(0);
        full.erase();
        Checks.due("13: 30 again behind one that left", 30, Hands.write(full, "9"));
    }

    private static void acceptAges() {
        KeypadWriter writer = Hands.writerWith("z,0;y,3;");
        writer.setWays(false, 4);
        Hands.write(writer, "2");
        Hands.write(writer, "3");
        Hands.write(writer, "3");
        Checks.due("13: before the ageing", "z/0/0/given y/3/0/given a/1/1/added d/2/3/added", Hands.listed(writer));
        Hands.write(writer, "5");
        Checks.due("13: a leaves, given words do not age",
            "z/0/0/given y/3/0/given d/1/3/added j/1/4/added", Hands.listed(writer));
        writer.setWays(false, 1);
        Hands.write(writer, "3");
        Checks.due("13: the accepted word does not age",
            "z/0/0/given y/3/0/given d/2/5/added", Hands.listed(writer));
        Hands.write(writer, "9");
        Checks.due("13: added words age by a given one too",
            "z/0/0/given y/4/6/given d/1/5/added", Hands.listed(writer));
        Hands.write(writer, "9");
        Checks.due("13: the last added word leaves", "z/0/0/given y/5/7/given", Hands.listed(writer));
    }

    private static void acceptAgesFewTimes() {
        KeypadWriter writer = new KeypadWriter();
        writer.setWays(false, 3);
        for (String keys : new String[] {"2", "22", "222", "2222", "22222"}) {
            Hands.write(writer, keys);
        }
        Checks.due("13: a and aa left at 3", "aaa/1/3/added aaaa/1/4/added aaaaa/1/5/added", Hands.listed(writer));
        Hands.write(writer, "333");
        Checks.due("13: all but the new one left at 6", "ddd/1/6/added", Hands.listed(writer));
    }

    /** Fills the list with 50 words: 30 written at the end of the text, the others over opened words. */
    private static void acceptIntoFullList(String given) {
        KeypadWriter writer = Hands.writerWith(given);
        int oldest = writer.setting(Hands.WORDS);
        writer.setWays(false, 50);
        writer.mode(true);
        for (int i = 0; i < 30; i++) {
            int key = i / 7;
            writer.press(2 + key);
            writer.press(2 + (key + 1 + i % 7) % 8);
            writer.accept();
        }
        Checks.due("13: words of the list", 30 + oldest, writer.setting(Hands.WORDS));
        // No multiple of 29 comes up to the end: no word ages.
        writer.setWays(false, 29);
        for (int index = 1; index <= 20 - oldest; index++) {
            writer.open(index);
            Hands.write(writer, "2");
        }
        Checks.due("13: the full list", 50, writer.setting(Hands.WORDS));
        Checks.due("13: the oldest added word", "ad", Hands.wordAt(writer, oldest));
        writer.open(25);
        Hands.write(writer, "6");
        Checks.due("13: still 50 words", 50, writer.setting(Hands.WORDS));
        Checks.due("13: the last added one by rank left", "ag", Hands.wordAt(writer, oldest));
        Checks.due("13: a given word stays, though its count is 0", oldest == 0 ? 1 : 0, writer.word(0, Hands.ADDED));
        Checks.due("13: the new one is the last", writer.setting(Hands.CLOCK), writer.word(49, Hands.TIME));
        Checks.due("13: the new one is added", 1, writer.word(49, Hands.ADDED));
    }

    private static void open() {
        KeypadWriter writer = Hands.writerWith("ad,5;be,4;bed,1;");
        Hands.write(writer, "23");
        Hands.write(writer, "456");
        Checks.refusedBy(writer, "14: word 2 of 2", Hands.INDEX, () -> writer.open(2));
        Checks.refusedBy(writer, "14: word -1", Hands.INDEX, () -> writer.open(-1));
        Checks.due("14: the length", 3, writer.open(1));
        Checks.due("14: all fixed", "gjm", Hands.places(writer));
        Checks.due("14: opened", 1, writer.setting(Hands.OPENED));
        Checks.due("14: it stays in the text", "ad gjm", Hands.text(writer));
        Checks.refusedBy(writer, "14: open while opened", Hands.STATE, () -> writer.open(0));
        Checks.refused("14: a wrong word while opened", Hands.INDEX, () -> writer.open(2));
        writer.undo();
        Checks.due("14: open is undoable", -1, writer.setting(Hands.OPENED));
        Checks.due("14: the present word before", 0, writer.setting(Hands.PLACES));
        writer.press(2);
        Checks.refusedBy(writer, "14: open with a present word", Hands.STATE, () -> writer.open(0));
        writer.erase();
        writer.open(0);
        Checks.due("14: fixed letters have their own candidates", "ad", Hands.candidates(writer));
        writer.press(3);
        Checks.due("14: keys behind it", "ad3", Hands.places(writer));
        writer.accept();
        Checks.due("14: replaced", "add gjm", Hands.text(writer));
    }

    private static void openedWordLeaves() {
        KeypadWriter writer = new KeypadWriter();
        Hands.write(writer, "2");
        Hands.write(writer, "33");
        Hands.write(writer, "4");
        writer.open(1);
        Checks.due("14: erase", 1, writer.erase());
        Checks.due("14: it is still opened", 1, writer.setting(Hands.OPENED));
        Checks.due("14: erase the last", 0, writer.erase());
        Checks.due("14: it left the text", "a g", Hands.text(writer));
        Checks.due("14: none is opened", -1, writer.setting(Hands.OPENED));
        Checks.due("14: the next one can be opened", 1, writer.open(1));
        writer.undo();
        writer.undo();
        Checks.due("14: undo brings it back", "a dd g", Hands.text(writer));
        Checks.due("14: opened again", 1, writer.setting(Hands.OPENED));
        writer.erase();
        Hands.write(writer, "5");
        Checks.due("14: the next word is at the end", "a g j", Hands.text(writer));
        Checks.due("14: the list keeps the word", 4, writer.setting(Hands.WORDS));
    }
}
