/** Promises 1 to 7: a new object, the list text, the word list. */
final class ListTest {
    private ListTest() {
    }

    public static void main(String[] args) {
        newObject();
        append();
        clearText();
        loadWords();
        loadErrors();
        loadKeepsTheRest();
        loadSavesStates();
        setWays();
        word();
        rank();
        letter();
        Checks.finish("ListTest");
    }

    private static void newObject() {
        KeypadWriter writer = new KeypadWriter();
        int[] settings = {0, 0, 10, 0, 0, -1, 0, 0, -1, 0, -1};
        for (int what = 0; what < settings.length; what++) {
            Checks.due("1: setting " + what, settings[what], writer.setting(what));
        }
        Checks.due("1: display", "", Hands.shown(writer));
        Checks.due("1: the list text", 0, writer.clearText());
        Checks.refused("1: undo", Hands.STATE, writer::undo);
        Checks.refused("1: word", Hands.INDEX, () -> writer.word(0, 0));
        Checks.refused("1: written", Hands.INDEX, () -> writer.written(0, -1));
    }

    private static void append() {
        KeypadWriter writer = new KeypadWriter();
        Checks.due("2: append(0)", 1, writer.append(0));
        Checks.due("2: append(127)", 2, writer.append(127));
        Checks.refusedBy(writer, "2: append(-1)", Hands.ARGUMENT, () -> writer.append(-1));
        Checks.refusedBy(writer, "2: append(128)", Hands.ARGUMENT, () -> writer.append(128));
        Checks.refusedBy(writer, "2: append(MIN)", Hands.ARGUMENT, () -> writer.append(Integer.MIN_VALUE));
        for (int length = 3; length <= 150; length++) {
            Checks.due("2: append number " + length, length, writer.append('a'));
        }
        Checks.refusedBy(writer, "2: append to 150 bytes", Hands.STATE, () -> writer.append('a'));
        Checks.refused("2: a wrong byte to 150 bytes", Hands.ARGUMENT, () -> writer.append(128));
        Checks.due("2: append saves no state", 0, Hands.savedStates(writer));
    }

    private static void clearText() {
        KeypadWriter writer = Hands.writerWith("ad,5;");
        Checks.due("3: clearText", 5, writer.clearText());
        Checks.due("3: clearText again", 0, writer.clearText());
        Checks.due("3: the word list stays", "ad/5/0/given", Hands.listed(writer));
        Checks.due("3: append begins anew", 1, writer.append('b'));
        Checks.due("3: only load saved a state", 1, Hands.savedStates(writer));
        Checks.due("3: undo leaves the list text", 1, writer.clearText());
    }

    private static void loadWords() {
        KeypadWriter writer = new KeypadWriter();
        Checks.due("4: no items", 0, writer.load());
        Checks.due("4: two words", 2, Hands.load(writer, "be,0;ad,012;"));
        Checks.due("4: the two words", "be/0/0/given ad/12/0/given", Hands.listed(writer));
        Checks.due("4: the list text stays", 2, writer.load());
        Checks.due("4: ten letters", 1, Hands.load(writer, "abcdefghij,999;"));
        Checks.due("4: the long word", "abcdefghij/999/0/given", Hands.listed(writer));
        Checks.due("4: no items again", 0, Hands.load(writer, ""));
        Checks.due("4: the empty list", "", Hands.listed(writer));
        StringBuilder many = new StringBuilder();
        for (char letter = 'a'; letter <= 'z'; letter++) {
            many.append(letter).append(",7;");
        }
        many.append("aa,1;ab,2;ac,3;ad,4;ae,5;af,6;ag,7;ah,8;ai,9;");
        Checks.due("4: 149 bytes", 35, Hands.load(writer, many.toString()));
    }

    private static void loadErrors() {
        String[] wrong = {
            "a", "a,", "a,1", "a,1;b", ",", ";", "1", "a;", "a1", "A,1;", "a ,1;", "a, 1;", "a,1 ;", "a,;",
            "a,1,", "a,1;;", "a,1000;", "abcdefghijk,1;", "a,1;a,2;", "a,1;a", "a,1;a;", "a,1;a1", "a,1;ab,2;ab,3;",
            "a,1;b,2;a,", "a,1;abcdefghijk", "`,1;", "{,1;", "a,/;", "a,:;", "a,-1;"
        };
        int[] positions = {
            1, 2, 3, 5, 0, 0, 0, 1, 1, 0, 1, 2, 3, 2,
            3, 4, 5, 10, 4, 5, 5, 5, 9,
            8, 14, 0, 0, 2, 2, 2
        };
        for (int i = 0; i < wrong.length; i++) {
            KeypadWriter writer = Hands.writerWith("ad,5;be,5;");
            Hands.type(writer, "23");
            writer.next();
            Checks.due("4: load of " + wrong[i], -10 - positions[i], Hands.load(writer, wrong[i]));
            Checks.due("4: the list behind " + wrong[i], "ad/5/0/given be/5/0/given", Hands.listed(writer));
            Checks.due("4: the chosen one behind " + wrong[i], 1, writer.setting(Hands.CHOSEN));
            Checks.due("4: saved states behind " + wrong[i], 3, digestedSavedStates(writer));
        }
        KeypadWriter odd = new KeypadWriter();
        odd.append(0);
        Checks.due("4: byte 0", -10, odd.load());
    }

    /** Three presses and next() saved the latest three; the fourth is from load(). */
    private static int digestedSavedStates(KeypadWriter writer) {
        return Hands.savedStates(writer) - 1;
    }

    private static void loadKeepsTheRest() {
        KeypadWriter writer = Hands.writerWith("ad,5;be,5;cf,9;be".substring(0, 15));
        Hands.write(writer, "23");
        writer.mode(true);
        Hands.type(writer, "2");
        writer.setWays(true, 7);
        Checks.due("4: a new list", 2, Hands.load(writer, "cf,1;add,3;"));
        Checks.due("4: never used, given", "cf/1/0/given add/3/0/given", Hands.listed(writer));
        Checks.due("4: the clock stays", 1, writer.setting(Hands.CLOCK));
        Checks.due("4: the text stays", "cf", Hands.text(writer));
        Checks.due("4: the places stay", "a", Hands.places(writer));
        Checks.due("4: the mode stays", 1, writer.setting(Hands.TAPPING));
        Checks.due("4: the pending key stays", 2, writer.setting(Hands.PENDING));
        Checks.due("4: the ageing stays", 7, writer.setting(Hands.AGEING));
        Checks.due("4: candidates are of the new list", "add", Hands.candidates(writer));
        KeypadWriter chooser = Hands.writerWith("ad,5;be,5;");
        Hands.type(chooser, "23");
        chooser.next();
        chooser.load();
        Checks.due("4: the first candidate is chosen", 0, chooser.setting(Hands.CHOSEN));
        chooser.accept();
        chooser.open(0);
        chooser.load();
        Checks.due("4: the opened word stays", 0, chooser.setting(Hands.OPENED));
    }

    private static void loadSavesStates() {
        KeypadWriter writer = Hands.writerWith("ad,5;");
        Hands.load(writer, "be,4;");
        Checks.due("4: undo of load", 1, writer.undo());
        Checks.due("4: the list is back", "ad/5/0/given", Hands.listed(writer));
        Checks.due("4: the list text is not", 5, writer.clearText());
    }

    private static void setWays() {
        KeypadWriter writer = Hands.writerWith("ad,5;be,5;adz,9;");
        Hands.type(writer, "23");
        writer.next();
        Checks.due("5: the first ageing", 10, writer.setWays(true, 1));
        Checks.due("5: completing", 1, writer.setting(Hands.COMPLETING));
        Checks.due("5: the first candidate is chosen", 0, writer.setting(Hands.CHOSEN));
        Checks.due("5: candidates", "ad be adz", Hands.candidates(writer));
        Checks.due("5: the ageing 1", 1, writer.setWays(true, 50));
        Checks.due("5: the ageing 50", 50, writer.setWays(false, 3));
        Checks.due("5: candidates without longer ones", "ad be", Hands.candidates(writer));
        Checks.refusedBy(writer, "5: ageing 0", Hands.ARGUMENT, () -> writer.setWays(true, 0));
        Checks.refusedBy(writer, "5: ageing 51", Hands.ARGUMENT, () -> writer.setWays(true, 51));
        Checks.refusedBy(writer, "5: ageing MIN", Hands.ARGUMENT, () -> writer.setWays(true, Integer.MIN_VALUE));
        writer.undo();
        Checks.due("5: undo brings the ageing back", 50, writer.setting(Hands.AGEING));
        Checks.due("5: undo brings completing back", 1, writer.setting(Hands.COMPLETING));
    }

    private static void word() {
        KeypadWriter writer = Hands.writerWith("cf,9;be,5;");
        Hands.write(writer, "222");
        Hands.write(writer, "23");
        int[][] due = {{2, 10, 2, 0, 0}, {2, 5, 0, 0, 1}, {3, 1, 1, 1, 2}};
        for (int word = 0; word < due.length; word++) {
            for (int what = 0; what < due[word].length; what++) {
                Checks.due("6: word(" + word + ", " + what + ")", due[word][what], writer.word(word, what));
            }
        }
        Checks.refused("6: word 3", Hands.INDEX, () -> writer.word(3, 0));
        Checks.refused("6: word -1", Hands.INDEX, () -> writer.word(-1, 0));
        Checks.refused("6: word 3, wrong value", Hands.INDEX, () -> writer.word(3, 5));
        Checks.refused("6: value 5", Hands.ARGUMENT, () -> writer.word(0, 5));
        Checks.refused("6: value -1", Hands.ARGUMENT, () -> writer.word(0, -1));
        Checks.refused("6: word MAX", Hands.INDEX, () -> writer.word(Integer.MAX_VALUE, 0));
    }

    private static void rank() {
        // Counts first, then times, then the alphabet, with a beginning before the longer word.
        KeypadWriter writer = Hands.writerWith("b,4;ab,4;a,4;w,3;z,0;m,5;d,3;");
        Hands.write(writer, "9");
        Hands.write(writer, "3");
        int[] ranks = {5, 4, 3, 2, 6, 0, 1};
        for (int word = 0; word < ranks.length; word++) {
            Checks.due("6: rank of word " + word, ranks[word], writer.word(word, Hands.RANK));
        }
    }

    private static void letter() {
        KeypadWriter writer = Hands.writerWith("az,9;abcdefghij,5;");
        Checks.due("7: letter a", 0, writer.letter(0, 0));
        Checks.due("7: letter z", 25, writer.letter(0, 1));
        Checks.due("7: the tenth letter", 9, writer.letter(1, 9));
        Checks.refused("7: letter 2 of 2", Hands.INDEX, () -> writer.letter(0, 2));
        Checks.refused("7: letter 10 of 10", Hands.INDEX, () -> writer.letter(1, 10));
        Checks.refused("7: letter -1", Hands.INDEX, () -> writer.letter(0, -1));
        Checks.refused("7: letter MIN", Hands.INDEX, () -> writer.letter(0, Integer.MIN_VALUE));
        Checks.refused("7: word 2", Hands.INDEX, () -> writer.letter(2, 0));
        Checks.refused("7: word -1", Hands.INDEX, () -> writer.letter(-1, 0));
    }
}
