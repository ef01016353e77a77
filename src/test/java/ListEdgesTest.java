/** Promises 1 to 7 at their edges: a new object, the list text and its syntax, the word list and its ranking. */
final class ListEdgesTest {
    private static final String LETTERS = "abcdefghijklmnopqrstuvwxyz";
    private static final String DIGITS = "0123456789";

    private ListEdgesTest() {
    }

    public static void main(String[] args) {
        newObject();
        objectsShareNothing();
        appendBytes();
        appendUpTo150();
        clearText();
        everyByteEverywhere();
        textsThatEndTooEarly();
        countsOfDigits();
        lettersOfWords();
        wordsToldBefore();
        firstOfSeveralErrors();
        longestTexts();
        loadNoItems();
        loadMakesAllAnew();
        loadOverTheFullList();
        loadKeepsTheRest();
        loadFails();
        setWays();
        wordValues();
        rankOfCounts();
        rankOfTimes();
        rankOfLetters();
        rankInTheFullList();
        letters();
        Checks.finish("ListEdgesTest");
    }

    private static void newObject() {
        KeypadWriter writer = new KeypadWriter();
        Checks.due("1: no words clash", 0, writer.clashing());
        Checks.due("1: nothing is saved by guessing", 0.0, writer.saving());
        Checks.due("1: the display is empty", -1, writer.display(0));
        Checks.due("1: no state is saved", 0, Hands.savedStates(writer));
        Checks.due("1: the guessing mode: a key is pressed", 1, writer.press(2));
        Checks.due("1: the guessing mode: its place is the key", 2, writer.place(0));
        writer.accept();
        Checks.due("1: the first word is added at time 1", "a/1/1/added", Hands.listed(writer));
        Checks.due("1: the clock was 0", 1, writer.setting(Hands.CLOCK));
    }

    private static void objectsShareNothing() {
        KeypadWriter busy = Hands.writerWith("ad,5;be,7;");
        busy.setWays(true, 3);
        Hands.write(busy, "23");
        busy.mode(true);
        busy.press(4);
        long before = busy.digest();
        KeypadWriter other = new KeypadWriter();
        Checks.due("1: a second object's words", 0, other.setting(Hands.WORDS));
        Checks.due("1: a second object's clock", 0, other.setting(Hands.CLOCK));
        Checks.due("1: a second object's ageing", 10, other.setting(Hands.AGEING));
        Checks.due("1: a second object's text", 0, other.setting(Hands.WRITTEN));
        Checks.due("1: a second object's list text", 1, other.append('a'));
        Hands.write(other, "999");
        Checks.due("1: the first object is as it was", before, busy.digest());
    }

    private static void appendBytes() {
        KeypadWriter writer = new KeypadWriter();
        int[] right = {0, 1, 97, 126, 127};
        for (int i = 0; i < right.length; i++) {
            Checks.due("2: append(" + right[i] + ")", i + 1, writer.append(right[i]));
        }
        Checks.due("2: all of them are bytes of the text", 5, writer.clearText());
    }

    private static void appendUpTo150() {
        KeypadWriter writer = new KeypadWriter();
        for (int round = 1; round <= 2; round++) {
            for (int length = 1; length <= 150; length++) {
                Checks.due("2: byte " + length + " of round " + round, length, writer.append('a'));
            }
            Checks.refused("2: byte 151 of round " + round, Hands.STATE, () -> writer.append('a'));
            Checks.refused("2: byte 151, out of range", Hands.ARGUMENT, () -> writer.append(-1));
            Checks.due("3: the full text of round " + round, 150, writer.clearText());
        }
    }

    private static void clearText() {
        KeypadWriter writer = new KeypadWriter();
        Checks.due("3: an empty text", 0, writer.clearText());
        writer.append('a');
        Checks.due("3: one byte", 1, writer.clearText());
        Checks.due("3: the text is empty then", 0, writer.load());
        Checks.due("3: nothing of it comes back", 1, writer.append(';'));
        Checks.due("3: the text is the new byte", -10, writer.load());
    }

    /** Behind each beginning of an item, each of the 128 bytes is put and the text is read. */
    private static void everyByteEverywhere() {
        everyByteBehind("", LETTERS);
        everyByteBehind("a", LETTERS + ",");
        everyByteBehind("abcdefghi", LETTERS + ",");
        everyByteBehind("abcdefghij", ",");
        everyByteBehind("b,", DIGITS);
        everyByteBehind("b,1", DIGITS + ";");
        everyByteBehind("b,12", DIGITS + ";");
        everyByteBehind("b,123", ";");
        everyByteBehind("b,1;", LETTERS);
        everyByteBehind("b,1;a", LETTERS + ",");
        everyByteBehind("b,1;abcdefghij", ",");
        everyByteBehind("b,1;a,", DIGITS);
        everyByteBehind("b,1;a,000", ";");
    }

    private static void everyByteBehind(String beginning, String fitting) {
        for (int value = 0; value <= 127; value++) {
            KeypadWriter writer = new KeypadWriter();
            Hands.append(writer, beginning);
            writer.append(value);
            boolean fits = fitting.indexOf(value) >= 0;
            int due = -10 - beginning.length();
            if (fits) {
                due = value == ';' ? beginning.startsWith("b,1;") ? 2 : 1 : due - 1;
            }
            Checks.due("4: byte " + value + " behind '" + beginning + "'", due, writer.load());
        }
    }

    private static void textsThatEndTooEarly() {
        String text = "b,1;abcdefghij,123;";
        for (int length = 1; length < text.length(); length++) {
            KeypadWriter writer = new KeypadWriter();
            int due = length == 4 ? 1 : -10 - length;
            Checks.due("4: the first " + length + " bytes", due, Hands.load(writer, text.substring(0, length)));
        }
        Checks.due("4: all of its bytes", 2, Hands.load(new KeypadWriter(), text));
    }

    private static void countsOfDigits() {
        KeypadWriter writer = Hands.writerWith("a,0;b,00;c,000;d,9;e,99;f,999;g,007;h,010;i,100;");
        int[] counts = {0, 0, 0, 9, 99, 999, 7, 10, 100};
        for (int word = 0; word < counts.length; word++) {
            Checks.due("4: the count of word " + word, counts[word], writer.word(word, Hands.COUNT));
        }
        Checks.due("4: a fourth digit", -15, Hands.load(writer, "a,1000;"));
        Checks.due("4: a fourth digit behind zeros", -15, Hands.load(writer, "a,0001;"));
        Checks.due("4: no digit", -12, Hands.load(writer, "a,;"));
    }

    private static void lettersOfWords() {
        KeypadWriter writer = new KeypadWriter();
        String letters = "zyxwvutsrq";
        for (int length = 1; length <= 10; length++) {
            Checks.due("4: a word of " + length + " letters", 1,
                Hands.load(writer, letters.substring(0, length) + ",5;"));
            Checks.due("4: its length", length, writer.word(0, Hands.LENGTH));
            Checks.due("4: its letters", letters.substring(0, length), Hands.wordAt(writer, 0));
        }
        KeypadWriter wrong = new KeypadWriter();
        Checks.due("4: no letter", -10, Hands.load(wrong, ",5;"));
        Checks.due("4: an eleventh letter", -20, Hands.load(wrong, letters + "p,5;"));
        Checks.due("4: an eleventh letter is the last byte", -20, Hands.load(wrong, letters + "p"));
        Checks.due("4: an eleventh letter of the second word", -24, Hands.load(wrong, "a,5;" + letters + "p,5;"));
    }

    private static void wordsToldBefore() {
        String[] texts = {
            "a,1;a,1;", "a,1;a,", "a,1;a,x", "a,1;a", "a,1;a;", "ab,1;a,2;", "a,1;ab,2;", "a,1;b,2;a,3;",
            "a,1;b,2;b,3;", "abcdefghij,1;abcdefghij,1;", "abcdefghij,1;abcdefghi,1;", "abcdefghij,1;abcdefghik,1;",
            "abcdefghij,1;abcdefghijk,1;", "a,1;aa,1;aaa,1;aa,1;", "ab,1;ba,1;"
        };
        int[] due = {-14, -14, -14, -15, -15, 2, 2, -18, -18, -23, 2, 2, -33, -25, 2};
        for (int i = 0; i < texts.length; i++) {
            Checks.due("4: told before in " + texts[i], due[i], Hands.load(new KeypadWriter(), texts[i]));
        }
        KeypadWriter writer = Hands.writerWith("a,1;b,2;");
        Checks.due("4: a word of the list, not of the text", 2, Hands.load(writer, "b,3;a,4;"));
        Checks.due("4: a word of a text that was wrong", -14, Hands.load(writer, "c,1;-"));
        Checks.due("4: is not told before in the next one", 1, Hands.load(writer, "c,1;"));
        String last = Hands.longestList();
        Checks.due("4: the first word again behind 34", -10 - 144,
            Hands.load(new KeypadWriter(), last.substring(0, 144) + "a,9;"));
        Checks.due("4: the last word again behind 34", -10 - 144,
            Hands.load(new KeypadWriter(), last.substring(0, 144) + "ah,9;"));
    }

    private static void firstOfSeveralErrors() {
        Checks.due("4: the first error", -13, Hands.load(new KeypadWriter(), "a,1x;a,1;A"));
        Checks.due("4: a word told before is before what follows", -14, Hands.load(new KeypadWriter(), "a,1;a,1234;"));
        Checks.due("4: a wrong byte is before the comma", -15, Hands.load(new KeypadWriter(), "a,1;a.,1;"));
        Checks.due("4: two semicolons", -14, Hands.load(new KeypadWriter(), "a,1;;"));
        Checks.due("4: a space at the end", -14, Hands.load(new KeypadWriter(), "a,1; "));
    }

    private static void longestTexts() {
        String text = Hands.longestList();
        KeypadWriter writer = new KeypadWriter();
        Checks.due("4: 150 bytes", 35, Hands.load(writer, text.substring(0, 148) + "9;"));
        Checks.due("4: the last word of 150 bytes", "ai", Hands.wordAt(writer, 34));
        Checks.due("4: its count", 99, writer.word(34, Hands.COUNT));
        Checks.due("4: they all were read", 150, writer.clearText());
        Checks.due("4: 150 bytes end too early", -160, Hands.load(new KeypadWriter(), text.substring(0, 148) + "99"));
        Checks.due("4: byte 149 is wrong", -159, Hands.load(new KeypadWriter(), text + ";"));
        Checks.due("4: byte 149 begins an item", -160, Hands.load(new KeypadWriter(), text + "a"));
        Checks.due("4: byte 148 is wrong", -158, Hands.load(new KeypadWriter(), text.substring(0, 148) + ",,"));
    }

    private static void loadNoItems() {
        KeypadWriter writer = Hands.writerWith("ad,5;be,5;");
        Hands.type(writer, "23");
        Checks.due("4: no items", 0, Hands.load(writer, ""));
        Checks.due("4: the list is empty then", 0, writer.setting(Hands.WORDS));
        Checks.due("4: the present word stays", "23", Hands.places(writer));
        Checks.due("4: without candidates", 0, writer.setting(Hands.CANDIDATES));
        Checks.due("4: none is chosen", -1, writer.setting(Hands.CHOSEN));
        Checks.due("4: the first letters are displayed", "ad", Hands.shown(writer));
        writer.undo();
        Checks.due("4: a load of no items is undoable", "ad/5/0/given be/5/0/given", Hands.listed(writer));
    }

    private static void loadMakesAllAnew() {
        KeypadWriter writer = Hands.writerWith("ad,5;");
        Hands.write(writer, "23");
        Hands.write(writer, "45");
        Checks.due("4: before", "ad/6/1/given gj/1/2/added", Hands.listed(writer));
        Checks.due("4: the same words", 2, Hands.load(writer, "gj,1;ad,5;"));
        Checks.due("4: given and never used", "gj/1/0/given ad/5/0/given", Hands.listed(writer));
        writer.setWays(false, 1);
        Hands.write(writer, "23");
        Checks.due("4: the clock went on, and given words do not age", "gj/1/0/given ad/6/3/given",
            Hands.listed(writer));
        Checks.due("4: loaded twice", 2, writer.load());
        Checks.due("4: as if never used", "gj/1/0/given ad/5/0/given", Hands.listed(writer));
    }

    private static void loadOverTheFullList() {
        KeypadWriter writer = Hands.writerWithFullList();
        Checks.due("4: the full list", 50, writer.setting(Hands.WORDS));
        Checks.due("4: a load over it", 35, writer.load());
        Checks.due("4: the last word", "ai", Hands.wordAt(writer, 34));
        Checks.refused("4: no word behind it", Hands.INDEX, () -> writer.word(35, 0));
        Checks.due("4: the clock stays", 15, writer.setting(Hands.CLOCK));
        Checks.due("4: the text stays", 15, writer.setting(Hands.WRITTEN));
        writer.undo();
        Checks.due("4: the full list is back", 50, writer.setting(Hands.WORDS));
        Checks.due("4: with its last word", "gt", Hands.wordAt(writer, 49));
        Checks.due("4: which is an added one", 1, writer.word(49, Hands.ADDED));
    }

    private static void loadKeepsTheRest() {
        KeypadWriter writer = Hands.writerWith("ad,5;be,4;");
        Hands.write(writer, "23");
        writer.open(0);
        writer.press(4);
        writer.mode(true);
        writer.press(5);
        Hands.load(writer, "adgj,5;adgk,4;");
        Checks.due("4: the places stay", "adgj", Hands.places(writer));
        Checks.due("4: the opened word stays", 0, writer.setting(Hands.OPENED));
        Checks.due("4: the pending key stays", 5, writer.setting(Hands.PENDING));
        Checks.due("4: it moves the last letter on", 4, writer.press(5));
        Checks.due("4: to the next one", "adgk", Hands.places(writer));
        Checks.due("4: the candidate is of the new list", 1, writer.candidate(0));
        Checks.due("4: accepted at its place", 1, writer.accept());
        Checks.due("4: the text", "adgk", Hands.text(writer));
    }

    private static KeypadWriter writerWithWrongText() {
        KeypadWriter writer = Hands.writerWith("ad,5;be,5;adz,9;");
        writer.setWays(true, 7);
        Hands.write(writer, "23");
        Hands.type(writer, "23");
        writer.next();
        writer.clearText();
        Hands.append(writer, "cf,1;cf,2;");
        return writer;
    }

    private static void loadFails() {
        Twins.asked("4: a load with a syntax error", ListEdgesTest::writerWithWrongText, KeypadWriter::load);
        KeypadWriter writer = writerWithWrongText();
        Checks.due("4: the error", -15, writer.load());
        Checks.due("4: the chosen candidate stays", 1, writer.setting(Hands.CHOSEN));
        Checks.due("4: the error once more", -15, writer.load());
        Checks.due("4: the text stays as it is", 10, writer.clearText());
        Checks.due("4: a right one behind it", 1, Hands.load(writer, "cf,1;"));
        Checks.due("4: chooses the first", 0, writer.setting(Hands.CHOSEN));
    }

    private static void setWays() {
        KeypadWriter writer = new KeypadWriter();
        int before = 10;
        for (int ageing : new int[] {1, 2, 49, 50, 50, 10}) {
            Checks.due("5: the ageing before " + ageing, before, writer.setWays(false, ageing));
            Checks.due("5: the ageing " + ageing, ageing, writer.setting(Hands.AGEING));
            Checks.due("5: completing is off", 0, writer.setting(Hands.COMPLETING));
            before = ageing;
        }
        writer.setWays(true, 10);
        Checks.due("5: completing is on", 1, writer.setting(Hands.COMPLETING));
        writer.setWays(true, 10);
        Checks.due("5: completing stays on", 1, writer.setting(Hands.COMPLETING));
        KeypadWriter tapper = Hands.writerWith("a,5;ab,4;");
        tapper.mode(true);
        tapper.press(2);
        tapper.setWays(true, 10);
        Checks.due("5: the pending key stays", 2, tapper.setting(Hands.PENDING));
        tapper.next();
        tapper.setWays(true, 10);
        Checks.due("5: the same ways choose the first too", 0, tapper.setting(Hands.CHOSEN));
    }

    private static void wordValues() {
        KeypadWriter writer = Hands.writerWith("abcdefghij,999;a,0;");
        int[][] due = {{10, 999, 0, 0, 0}, {1, 0, 0, 0, 1}};
        for (int word = 0; word < due.length; word++) {
            for (int what = 0; what < due[word].length; what++) {
                Checks.due("6: word(" + word + ", " + what + ")", due[word][what], writer.word(word, what));
            }
        }
        Hands.write(writer, "2345678923");
        int[] added = {10, 1, 1, 1, 1};
        for (int what = 0; what < added.length; what++) {
            Checks.due("6: the added word, " + what, added[what], writer.word(2, what));
        }
        Checks.due("6: the word behind it in the ranking", 2, writer.word(1, Hands.RANK));
    }

    private static void rankOfCounts() {
        KeypadWriter writer = Hands.writerWith("a,0;b,1;c,998;d,999;e,9;f,10;");
        int[] ranks = {5, 4, 1, 0, 3, 2};
        for (int word = 0; word < ranks.length; word++) {
            Checks.due("6: by counts, word " + word, ranks[word], writer.word(word, Hands.RANK));
        }
    }

    private static void rankOfTimes() {
        KeypadWriter writer = Hands.writerWith("c,4;b,4;a,4;d,2;m,3;");
        Hands.write(writer, "3");
        Hands.write(writer, "6");
        Hands.write(writer, "3");
        // d has the count 4 and the time 3, m the count 4 and the time 2; a, b, c were never used.
        int[] ranks = {4, 3, 2, 0, 1};
        for (int word = 0; word < ranks.length; word++) {
            Checks.due("6: by times, word " + word, ranks[word], writer.word(word, Hands.RANK));
        }
        Hands.write(writer, "6");
        Checks.due("6: a higher count", 0, writer.word(4, Hands.RANK));
        Checks.due("6: is before a later time", 1, writer.word(3, Hands.RANK));
    }

    private static void rankOfLetters() {
        ranksByLetters("aaaaaaaaab,5;aaaaaaaaaa,5;", 1, 0);
        ranksByLetters("baaaaaaaaa,5;azzzzzzzzz,5;", 1, 0);
        ranksByLetters("ab,5;a,5;abc,5;aaz,5;b,5;", 2, 0, 3, 1, 4);
        ranksByLetters("aaaaaaaaaa,5;aaaaaaaaa,5;", 1, 0);
        ranksByLetters("z,0;a,0;zz,0;za,0;", 1, 0, 3, 2);
        ranksByLetters("m,7;maaaaaaaaa,7;lzzzzzzzzz,7;", 1, 2, 0);
    }

    private static void ranksByLetters(String listText, int... ranks) {
        KeypadWriter writer = Hands.writerWith(listText);
        for (int word = 0; word < ranks.length; word++) {
            Checks.due("6: word " + word + " of " + listText, ranks[word], writer.word(word, Hands.RANK));
        }
    }

    private static void rankInTheFullList() {
        KeypadWriter writer = Hands.writerWithFullList();
        // "ai" 9, "ah" 8, "a" to "z" and "ag" 7, "af" to "ab" 6 to 2, the added ones from the newest, "aa" never used.
        int[] words = {34, 33, 0, 32, 1, 25, 31, 27, 49, 35, 26};
        int[] ranks = {0, 1, 2, 3, 4, 28, 29, 33, 34, 48, 49};
        for (int i = 0; i < words.length; i++) {
            Checks.due("6: of 50, word " + words[i], ranks[i], writer.word(words[i], Hands.RANK));
        }
        Checks.due("7: the last letter of the last word", 19, writer.letter(49, 1));
        Checks.refused("6: word 50 of 50", Hands.INDEX, () -> writer.word(50, 0));
        Checks.refused("7: word 50 of 50", Hands.INDEX, () -> writer.letter(50, 0));
    }

    private static void letters() {
        KeypadWriter writer = Hands.writerWith("m,5;zabcdefghy,5;");
        Checks.due("7: the letter of a word of one", 12, writer.letter(0, 0));
        Checks.refused("7: letter 1 of 1", Hands.INDEX, () -> writer.letter(0, 1));
        Checks.refused("7: letter NONE", Hands.INDEX, () -> writer.letter(0, KeypadWriter.NONE));
        Checks.due("7: the first of ten", 25, writer.letter(1, 0));
        Checks.due("7: the second of ten", 0, writer.letter(1, 1));
        Checks.due("7: the last of ten", 24, writer.letter(1, 9));
        Checks.refused("7: letter 10 of 10", Hands.INDEX, () -> writer.letter(1, 10));
        Checks.refused("7: letter MAX", Hands.INDEX, () -> writer.letter(1, Integer.MAX_VALUE));
    }
}
