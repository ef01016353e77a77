/** Promises 15 to 19 at their edges: setting, place, display, candidate, written. */
final class ReadingEdgesTest {
    private ReadingEdgesTest() {
    }

    public static void main(String[] args) {
        settingsOfTheFirst();
        settingsOfTheFull();
        settingOfTheChosenOne();
        pendingKeys();
        placesOfEachKey();
        placesOfEachLetter();
        tenPlaces();
        displayOfNothing();
        displayOfTen();
        displayIsNotOfTheOtherMode();
        candidatesOfAnEmptyWord();
        candidatesByLength();
        candidatesByPlace();
        groupsAreRanked();
        fiftyCandidates();
        writtenEdges();
        writtenOfThirty();
        askingChangesNothing();
        Checks.finish("ReadingEdgesTest");
    }

    private static void settingsOfTheFirst() {
        int[] due = {0, 0, 10, 0, 0, -1, 0, 0, -1, 0, -1};
        KeypadWriter writer = new KeypadWriter();
        for (int what = 0; what <= 10; what++) {
            Checks.due("15: setting " + what + " of a new writer", due[what], writer.setting(what));
        }
        Checks.refused("15: setting 11", Hands.ARGUMENT, () -> writer.setting(11));
        Checks.refused("15: setting -1", Hands.ARGUMENT, () -> writer.setting(-1));
        Checks.refused("15: setting MIN", Hands.ARGUMENT, () -> writer.setting(Integer.MIN_VALUE));
    }

    private static void settingsOfTheFull() {
        KeypadWriter writer = Hands.writerWithFullList();
        Checks.due("15: 50 words", 50, writer.setting(Hands.WORDS));
        Checks.due("15: the ageing 50", 50, writer.setting(Hands.AGEING));
        for (int word = 0; word < 15; word++) {
            Hands.write(writer, "2");
        }
        Checks.due("15: 30 words of the text", 30, writer.setting(Hands.WRITTEN));
        Checks.due("15: the clock", 30, writer.setting(Hands.CLOCK));
        writer.open(29);
        Checks.due("15: the last one is opened", 29, writer.setting(Hands.OPENED));
        Hands.type(writer, "222222222");
        Checks.due("15: ten places", 10, writer.setting(Hands.PLACES));
        Checks.due("15: no candidates", 0, writer.setting(Hands.CANDIDATES));
        Checks.due("15: none is chosen", -1, writer.setting(Hands.CHOSEN));
        writer.accept();
        writer.open(0);
        Checks.due("15: the first one is opened", 0, writer.setting(Hands.OPENED));
    }

    private static void settingOfTheChosenOne() {
        KeypadWriter writer = Hands.writerWith("ad,5;be,4;");
        Checks.due("15: none of an empty present word", -1, writer.setting(Hands.CHOSEN));
        Hands.type(writer, "23");
        Checks.due("15: the first of two", 0, writer.setting(Hands.CHOSEN));
        writer.next();
        Checks.due("15: the last of two", 1, writer.setting(Hands.CHOSEN));
        writer.mode(true);
        Checks.due("15: there is one in the tapping mode", 0, writer.setting(Hands.CHOSEN));
        Checks.due("15: of one", 1, writer.setting(Hands.CANDIDATES));
        writer.press(3);
        writer.press(3);
        Checks.due("15: none without candidates", -1, writer.setting(Hands.CHOSEN));
        Checks.due("15: which there are not", 0, writer.setting(Hands.CANDIDATES));
    }

    private static void pendingKeys() {
        KeypadWriter writer = new KeypadWriter();
        writer.mode(true);
        Checks.due("15: no pending key", -1, writer.setting(Hands.PENDING));
        for (int key = 2; key <= 9; key++) {
            writer.press(key);
            Checks.due("15: the pending key", key, writer.setting(Hands.PENDING));
        }
    }

    private static void placesOfEachKey() {
        KeypadWriter writer = new KeypadWriter();
        for (int key = 2; key <= 9; key++) {
            writer.press(key);
            Checks.due("16: the place of key " + key, key, writer.place(key - 2));
        }
        Checks.refused("16: behind the last place", Hands.INDEX, () -> writer.place(8));
        writer.erase();
        Checks.refused("16: an erased place", Hands.INDEX, () -> writer.place(7));
        Checks.due("16: the last place then", 8, writer.place(6));
        Checks.refused("16: place -1", Hands.INDEX, () -> writer.place(-1));
    }

    private static void placesOfEachLetter() {
        for (int key = 2; key <= 9; key++) {
            KeypadWriter writer = new KeypadWriter();
            writer.mode(true);
            for (char letter : Hands.KEYS[key].toCharArray()) {
                writer.press(key);
                Checks.due("16: the place of letter " + letter, 100 + letter - 'a', writer.place(0));
                Checks.due("17: the display of letter " + letter, letter - 'a', writer.display(0));
            }
            writer.mode(false);
            char last = Hands.KEYS[key].charAt(Hands.KEYS[key].length() - 1);
            Checks.due("16: fixed in the guessing mode", 100 + last - 'a', writer.place(0));
            Checks.due("17: displayed in the guessing mode", last - 'a', writer.display(0));
        }
    }

    private static void tenPlaces() {
        KeypadWriter writer = new KeypadWriter();
        Checks.refused("16: place 0 of none", Hands.INDEX, () -> writer.place(0));
        Hands.type(writer, "2345678929");
        Checks.due("16: the first of ten", 2, writer.place(0));
        Checks.due("16: the last of ten", 9, writer.place(9));
        Checks.refused("16: place 10 of ten", Hands.INDEX, () -> writer.place(10));
        Checks.refused("16: place MIN", Hands.INDEX, () -> writer.place(Integer.MIN_VALUE));
        writer.mode(true);
        Checks.due("16: the first of ten letters", 100, writer.place(0));
        Checks.due("16: the last of ten letters", 122, writer.place(9));
        Checks.refused("16: place 10 of ten letters", Hands.INDEX, () -> writer.place(10));
    }

    private static void displayOfNothing() {
        KeypadWriter writer = Hands.writerWith("a,5;");
        writer.setWays(true, 10);
        for (boolean tapping : new boolean[] {false, true}) {
            writer.mode(tapping);
            Checks.due("17: an empty present word", -1, writer.display(0));
            Checks.due("17: far behind it", -1, writer.display(Integer.MAX_VALUE));
            Checks.refused("17: index -1 of an empty one", Hands.ARGUMENT, () -> writer.display(-1));
        }
        writer.press(2);
        Checks.due("17: a word of one letter", 0, writer.display(0));
        Checks.due("17: behind it", -1, writer.display(1));
    }

    private static void displayOfTen() {
        KeypadWriter writer = Hands.writerWith("abcdefghiz,5;");
        writer.setWays(true, 10);
        writer.press(2);
        Checks.due("17: the last of ten", 25, writer.display(9));
        Checks.due("17: behind ten", -1, writer.display(10));
        Checks.refused("17: index -1 of ten", Hands.ARGUMENT, () -> writer.display(-1));
        writer.setWays(false, 10);
        Checks.due("17: the first letter of the key", 0, writer.display(0));
        Checks.due("17: behind the only one", -1, writer.display(1));
        Hands.type(writer, "999999999");
        Checks.due("17: the last of ten places", 22, writer.display(9));
        Checks.due("17: behind ten places", -1, writer.display(10));
    }

    private static void displayIsNotOfTheOtherMode() {
        KeypadWriter writer = Hands.writerWith("abz,5;");
        writer.setWays(true, 10);
        writer.mode(true);
        Hands.tap(writer, "ab");
        Checks.due("17: candidates are not displayed in the tapping mode", "ab", Hands.shown(writer));
        writer.mode(false);
        Checks.due("17: but in the guessing mode", "abz", Hands.shown(writer));
        writer.press(7);
        Checks.due("17: letters and a key without candidates", "abp", Hands.shown(writer));
        writer.erase();
        writer.press(9);
        Checks.due("17: letters and a key with a candidate", "abz", Hands.shown(writer));
    }

    private static void candidatesOfAnEmptyWord() {
        KeypadWriter writer = Hands.writerWith("a,5;ab,5;");
        writer.setWays(true, 10);
        Checks.due("18: an empty present word has none", 0, writer.setting(Hands.CANDIDATES));
        Checks.refused("18: candidate 0 of it", Hands.INDEX, () -> writer.candidate(0));
        writer.press(2);
        Checks.due("18: a place has", 2, writer.setting(Hands.CANDIDATES));
        writer.erase();
        Checks.refused("18: candidate 0 of the empty one again", Hands.INDEX, () -> writer.candidate(0));
    }

    private static void candidatesByLength() {
        KeypadWriter writer = Hands.writerWith("aaaaaaaaaa,1;aaaaaaaaa,9;aaa,9;aa,1;a,9;");
        Hands.type(writer, "22");
        Checks.due("18: as many letters as places", "aa", Hands.candidates(writer));
        writer.setWays(true, 10);
        Checks.due("18: behind it the longer ones", "aa aaa aaaaaaaaa aaaaaaaaaa", Hands.candidates(writer));
        Hands.type(writer, "22222222");
        Checks.due("18: ten places", "aaaaaaaaaa", Hands.candidates(writer));
        writer.erase();
        Checks.due("18: nine places", "aaaaaaaaa aaaaaaaaaa", Hands.candidates(writer));
        writer.setWays(false, 10);
        Checks.due("18: nine places alone", "aaaaaaaaa", Hands.candidates(writer));
    }

    private static void candidatesByPlace() {
        KeypadWriter writer = Hands.writerWith("ccc,3;ccf,2;fcc,1;cfc,4;");
        Hands.type(writer, "222");
        Checks.due("18: all keys", "ccc", Hands.candidates(writer));
        writer.erase();
        writer.press(3);
        Checks.due("18: another last key", "ccf", Hands.candidates(writer));
        writer.mode(true);
        writer.erase();
        writer.press(3);
        Checks.due("18: another last letter", "", Hands.candidates(writer));
        writer.press(3);
        writer.press(3);
        Checks.due("18: the last letter", "ccf", Hands.candidates(writer));
        writer.erase();
        writer.erase();
        writer.erase();
        Hands.tap(writer, "b");
        writer.mode(false);
        Hands.type(writer, "22");
        Checks.due("18: another first letter on the same key", "", Hands.candidates(writer));
        Checks.refused("18: candidate 0 of none", Hands.INDEX, () -> writer.candidate(0));
    }

    private static void groupsAreRanked() {
        KeypadWriter writer = Hands.writerWith("ab,0;ba,0;abc,999;bac,998;cab,999;cc,1;");
        writer.setWays(true, 10);
        Hands.type(writer, "22");
        Checks.due("18: each group is ranked", "cc ab ba abc cab bac", Hands.candidates(writer));
        int[] due = {5, 0, 1, 2, 4, 3};
        for (int number = 0; number < due.length; number++) {
            Checks.due("18: candidate " + number, due[number], writer.candidate(number));
        }
        Checks.refused("18: candidate 6 of 6", Hands.INDEX, () -> writer.candidate(6));
        Checks.refused("18: candidate NONE", Hands.INDEX, () -> writer.candidate(KeypadWriter.NONE));
        writer.next();
        writer.next();
        writer.accept();
        Hands.type(writer, "22");
        Checks.due("18: the later use of equal counts is first", "ba cc ab abc cab bac", Hands.candidates(writer));
    }

    private static void fiftyCandidates() {
        KeypadWriter writer = Hands.writerWithClashingWords();
        Hands.type(writer, "777");
        Checks.due("18: fifty candidates", 50, writer.setting(Hands.CANDIDATES));
        for (int number = 25; number < 50; number++) {
            Checks.due("18: added one, number " + number, 74 - number, writer.candidate(number));
        }
        Checks.refused("18: candidate 50 of 50", Hands.INDEX, () -> writer.candidate(50));
        Checks.refused("18: candidate MIN", Hands.INDEX, () -> writer.candidate(Integer.MIN_VALUE));
    }

    private static void writtenEdges() {
        KeypadWriter writer = new KeypadWriter();
        Checks.refused("19: word 0 of none", Hands.INDEX, () -> writer.written(0, KeypadWriter.NONE));
        Hands.write(writer, "9");
        Hands.write(writer, "2345678999");
        Checks.due("19: the length of one", 1, writer.written(0, KeypadWriter.NONE));
        Checks.due("19: its letter", 22, writer.written(0, 0));
        Checks.refused("19: letter 1 of one", Hands.INDEX, () -> writer.written(0, 1));
        Checks.due("19: the length of ten", 10, writer.written(1, KeypadWriter.NONE));
        Checks.due("19: the first letter", 0, writer.written(1, 0));
        Checks.due("19: the last letter", 22, writer.written(1, 9));
        Checks.refused("19: letter 10 of ten", Hands.INDEX, () -> writer.written(1, 10));
        Checks.refused("19: letter -2", Hands.INDEX, () -> writer.written(1, -2));
        Checks.refused("19: letter MAX", Hands.INDEX, () -> writer.written(1, Integer.MAX_VALUE));
        Checks.refused("19: word 2 of 2", Hands.INDEX, () -> writer.written(2, 0));
        Checks.refused("19: word NONE", Hands.INDEX, () -> writer.written(KeypadWriter.NONE, 0));
        writer.undo();
        Checks.refused("19: word 1, undone", Hands.INDEX, () -> writer.written(1, 0));
    }

    private static void writtenOfThirty() {
        KeypadWriter writer = Hands.writerWithText(30);
        Checks.due("19: the first of 30", 0, writer.written(0, 0));
        Checks.due("19: the last of 30", 15, writer.written(29, 0));
        Checks.due("19: its length", 1, writer.written(29, KeypadWriter.NONE));
        Checks.refused("19: word 30 of 30", Hands.INDEX, () -> writer.written(30, 0));
        Checks.refused("19: word MAX", Hands.INDEX, () -> writer.written(Integer.MAX_VALUE, 0));
        writer.open(29);
        writer.erase();
        Checks.refused("19: word 29 of 29", Hands.INDEX, () -> writer.written(29, 0));
    }

    private static KeypadWriter chooser() {
        KeypadWriter writer = Hands.writerWith("ad,5;be,4;adz,9;");
        writer.setWays(true, 10);
        Hands.write(writer, "23");
        Hands.write(writer, "45");
        Hands.type(writer, "23");
        writer.next();
        return writer;
    }

    private static void askingChangesNothing() {
        Twins.asked("6: word()", ReadingEdgesTest::chooser, writer -> writer.word(0, 4));
        Twins.asked("7: letter()", ReadingEdgesTest::chooser, writer -> writer.letter(0, 1));
        for (int what = 0; what <= 10; what++) {
            int setting = what;
            Twins.asked("15: setting(" + what + ")", ReadingEdgesTest::chooser, writer -> writer.setting(setting));
        }
        Twins.asked("16: place()", ReadingEdgesTest::chooser, writer -> writer.place(1));
        Twins.asked("17: display()", ReadingEdgesTest::chooser, writer -> writer.display(0));
        Twins.asked("18: candidate()", ReadingEdgesTest::chooser, writer -> writer.candidate(2));
        Twins.asked("19: written()", ReadingEdgesTest::chooser, writer -> writer.written(1, -1));
        Twins.asked("20: steps()", ReadingEdgesTest::chooser, writer -> writer.steps(1));
        Twins.asked("21: presses()", ReadingEdgesTest::chooser, writer -> writer.presses(1, false));
        Twins.asked("22: clashing()", ReadingEdgesTest::chooser, KeypadWriter::clashing);
        Twins.asked("23: saving()", ReadingEdgesTest::chooser, KeypadWriter::saving);
        Twins.asked("24: shortest()", ReadingEdgesTest::chooser, writer -> writer.shortest(1));
        Twins.asked("26: digest()", ReadingEdgesTest::chooser, KeypadWriter::digest);
    }
}
