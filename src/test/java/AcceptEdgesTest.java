/** Promises 13 and 14 at their edges: accept with its counts, its times, its ageing and the full list; open. */
final class AcceptEdgesTest {
    private AcceptEdgesTest() {
    }

    public static void main(String[] args) {
        countsUpTo999();
        timesOfUses();
        displayIsTheWord();
        longestAndShortestWord();
        refusedAcceptsDoNotCount();
        textOf30();
        openedWordsAreReplaced();
        openedWordAcceptedAsItIs();
        firstAgeing();
        ageingOf1();
        ageingOf50();
        changedAgeing();
        countsThatDecrease();
        acceptedWordDoesNotAge();
        givenWordsDoNotAge();
        numbersBehindThoseThatLeave();
        fiftiethWord();
        wordOfTheFullListIsCounted();
        lastAddedOneLeaves();
        fullListAgesWhileAWordComes();
        fullListLosesAllButOne();
        openEdges();
        openWhileTapping();
        openedWordHasCandidates();
        openAgain();
        Checks.finish("AcceptEdgesTest");
    }

    private static void countsUpTo999() {
        KeypadWriter writer = Hands.writerWith("a,997;d,999;g,0;");
        String[] keys = {"2", "2", "2", "3", "4"};
        String[] listed = {
            "a/998/1/given d/999/0/given g/0/0/given", "a/999/2/given d/999/0/given g/0/0/given",
            "a/999/3/given d/999/0/given g/0/0/given", "a/999/3/given d/999/4/given g/0/0/given",
            "a/999/3/given d/999/4/given g/1/5/given"
        };
        for (int i = 0; i < keys.length; i++) {
            Hands.write(writer, keys[i]);
            Checks.due("13: counts behind word " + i, listed[i], Hands.listed(writer));
        }
        Checks.due("13: equal counts of 999 are ranked by time", 0, writer.word(1, Hands.RANK));
    }

    private static void timesOfUses() {
        KeypadWriter writer = new KeypadWriter();
        for (int time = 1; time <= 9; time++) {
            Checks.due("13: the clock before", time - 1, writer.setting(Hands.CLOCK));
            Hands.write(writer, time % 2 == 0 ? "2" : "3");
            Checks.due("13: the clock behind it", time, writer.setting(Hands.CLOCK));
        }
        Checks.due("13: the latest uses", "d/5/9/added a/4/8/added", Hands.listed(writer));
        writer.undo();
        Checks.due("13: the clock is undone", 8, writer.setting(Hands.CLOCK));
        writer.erase();
        Hands.write(writer, "4");
        Checks.due("13: time 9 once more", "d/4/7/added a/4/8/added g/1/9/added", Hands.listed(writer));
    }

    private static void displayIsTheWord() {
        KeypadWriter writer = Hands.writerWith("ad,5;bd,4;adz,9;");
        Hands.type(writer, "23");
        writer.next();
        writer.accept();
        Checks.due("13: the chosen candidate", "bd", Hands.text(writer));
        Hands.write(writer, "24");
        Checks.due("13: the first letters of the keys", "bd ag", Hands.text(writer));
        writer.setWays(true, 10);
        Hands.write(writer, "2");
        Checks.due("13: a longer word by a place", "bd ag adz", Hands.text(writer));
        writer.mode(true);
        Hands.tap(writer, "ad");
        writer.next();
        writer.accept();
        Checks.due("13: the letters that were tapped", "bd ag adz ad", Hands.text(writer));
        Checks.due("13: are counted", "ad/6/4/given bd/5/1/given adz/10/3/given ag/1/2/added", Hands.listed(writer));
        writer.mode(false);
        Hands.type(writer, "23");
        writer.mode(true);
        Hands.tap(writer, "f");
        writer.mode(false);
        writer.press(9);
        writer.accept();
        Checks.due("13: letters and keys", "adfw", Hands.wordAt(writer, 4));
    }

    private static void longestAndShortestWord() {
        KeypadWriter writer = new KeypadWriter();
        Checks.due("13: ten places", 1, Hands.write(writer, "9999999999"));
        Checks.due("13: ten letters in the text", 10, writer.written(0, KeypadWriter.NONE));
        Checks.due("13: ten letters in the list", "wwwwwwwwww", Hands.wordAt(writer, 0));
        Checks.due("13: one place", 2, Hands.write(writer, "2"));
        Checks.due("13: both", "wwwwwwwwww/1/1/added a/1/2/added", Hands.listed(writer));
        Checks.due("13: the present word is empty", 0, writer.setting(Hands.PLACES));
        Checks.due("13: the display is empty", -1, writer.display(0));
    }

    private static void refusedAcceptsDoNotCount() {
        KeypadWriter writer = Hands.writerWithText(30);
        Checks.refused("13: an empty present word", Hands.STATE, writer::accept);
        writer.press(2);
        Checks.refused("13: a full text", Hands.STATE, writer::accept);
        Checks.due("13: the clock stays", 30, writer.setting(Hands.CLOCK));
        Checks.due("13: the present word stays", "2", Hands.places(writer));
        Checks.due("13: the count stays", 4, writer.word(0, Hands.COUNT));
        writer.erase();
        writer.open(29);
        Checks.due("13: a full text with an opened word", 30, writer.accept());
        Checks.due("13: the clock goes on", 31, writer.setting(Hands.CLOCK));
    }

    private static void textOf30() {
        KeypadWriter writer = Hands.writerWithText(29);
        Checks.due("13: 29 words", 29, writer.setting(Hands.WRITTEN));
        Checks.due("13: the 30th one", 30, Hands.write(writer, "22"));
        Checks.due("13: is the last one", 2, writer.written(29, KeypadWriter.NONE));
        writer.press(3);
        Checks.refused("13: the 31st one", Hands.STATE, writer::accept);
        writer.erase();
        writer.open(0);
        writer.erase();
        Checks.due("13: the 30th one again, behind one that left", 30, Hands.write(writer, "33"));
        Checks.due("13: is the last one", 3, writer.written(29, 0));
        Checks.due("13: the one before it moved up", 0, writer.written(28, 0));
    }

    private static void openedWordsAreReplaced() {
        for (int index : new int[] {0, 1, 28, 29}) {
            KeypadWriter writer = Hands.writerWithText(30);
            String[] words = Hands.text(writer).split(" ");
            writer.open(index);
            writer.press(9);
            Checks.due("13: as many words as before", 30, writer.accept());
            words[index] += "w";
            Checks.due("13: word " + index + " is replaced", String.join(" ", words), Hands.text(writer));
            Checks.due("13: none is opened then", -1, writer.setting(Hands.OPENED));
            writer.undo();
            Checks.due("13: undone", index, writer.setting(Hands.OPENED));
            Checks.due("13: the old word is back", 1, writer.written(index, KeypadWriter.NONE));
        }
    }

    private static void openedWordAcceptedAsItIs() {
        KeypadWriter writer = Hands.writerWith("ad,5;");
        Hands.write(writer, "23");
        writer.open(0);
        Checks.due("13: the opened word as it is", 1, writer.accept());
        Checks.due("13: is used once more", "ad/7/2/given", Hands.listed(writer));
        Checks.due("13: the text is the same", "ad", Hands.text(writer));
    }

    private static void firstAgeing() {
        KeypadWriter writer = new KeypadWriter();
        Hands.write(writer, "2");
        for (int time = 2; time <= 9; time++) {
            Hands.write(writer, "3");
        }
        Checks.due("13: nothing ages before time 10", "a/1/1/added d/8/9/added", Hands.listed(writer));
        Hands.write(writer, "3");
        Checks.due("13: a ages at time 10", "d/9/10/added", Hands.listed(writer));
        for (int time = 11; time <= 19; time++) {
            Hands.write(writer, "4");
        }
        Checks.due("13: nothing ages before time 20", "d/9/10/added g/9/19/added", Hands.listed(writer));
        Hands.write(writer, "4");
        Checks.due("13: d ages at time 20", "d/8/10/added g/10/20/added", Hands.listed(writer));
    }

    private static void ageingOf1() {
        KeypadWriter writer = new KeypadWriter();
        writer.setWays(false, 1);
        String[] letters = {"a", "d", "g"};
        for (int i = 0; i < letters.length; i++) {
            Hands.write(writer, Integer.toString(2 + i));
            Checks.due("13: all others leave", letters[i] + "/1/" + (i + 1) + "/added", Hands.listed(writer));
        }
    }

    private static void ageingOf50() {
        KeypadWriter writer = new KeypadWriter();
        writer.setWays(false, 50);
        Hands.write(writer, "2");
        for (int time = 2; time <= 30; time++) {
            Hands.write(writer, "3");
        }
        for (int time = 31; time <= 49; time++) {
            writer.open(1);
            writer.accept();
        }
        Checks.due("13: nothing ages before time 50", "a/1/1/added d/48/49/added", Hands.listed(writer));
        writer.open(1);
        writer.accept();
        Checks.due("13: a ages at time 50", "d/49/50/added", Hands.listed(writer));
    }

    private static void changedAgeing() {
        KeypadWriter writer = new KeypadWriter();
        writer.setWays(false, 7);
        for (String keys : new String[] {"2", "3", "4", "5", "5"}) {
            Hands.write(writer, keys);
        }
        writer.setWays(false, 5);
        Checks.due("13: setWays() alone does not age", 4, writer.setting(Hands.WORDS));
        writer.setWays(false, 4);
        Hands.write(writer, "6");
        Checks.due("13: time 6 is not divisible by 4", 5, writer.setting(Hands.WORDS));
        writer.setWays(false, 7);
        Hands.write(writer, "6");
        Checks.due("13: time 7 is divisible by 7", "j/1/5/added m/2/7/added", Hands.listed(writer));
    }

    private static void countsThatDecrease() {
        KeypadWriter writer = new KeypadWriter();
        for (String keys : new String[] {"2", "2", "2", "3"}) {
            Hands.write(writer, keys);
        }
        writer.setWays(false, 1);
        String[] listed = {"a/2/3/added d/2/5/added", "a/1/3/added d/3/6/added", "d/4/7/added", "d/5/8/added"};
        for (int i = 0; i < listed.length; i++) {
            Hands.write(writer, "3");
            Checks.due("13: decreased by 1, time " + i, listed[i], Hands.listed(writer));
        }
        Hands.write(writer, "2");
        Checks.due("13: a word that left is added anew", "d/4/8/added a/1/9/added", Hands.listed(writer));
    }

    private static void acceptedWordDoesNotAge() {
        KeypadWriter writer = new KeypadWriter();
        writer.setWays(false, 2);
        Hands.write(writer, "2");
        Hands.write(writer, "2");
        Checks.due("13: an added one that was there", "a/2/2/added", Hands.listed(writer));
        Hands.write(writer, "2");
        Hands.write(writer, "3");
        Checks.due("13: a new one", "a/2/3/added d/1/4/added", Hands.listed(writer));
    }

    private static void givenWordsDoNotAge() {
        KeypadWriter writer = Hands.writerWith("a,1;d,0;g,2;j,1;");
        writer.setWays(false, 1);
        Hands.write(writer, "6");
        Checks.due("13: by an added one", "a/1/0/given d/0/0/given g/2/0/given j/1/0/given m/1/1/added",
            Hands.listed(writer));
        Hands.write(writer, "5");
        Checks.due("13: by a given one", "a/1/0/given d/0/0/given g/2/0/given j/2/2/given", Hands.listed(writer));
    }

    private static void numbersBehindThoseThatLeave() {
        KeypadWriter writer = Hands.writerWith("z,3;");
        writer.setWays(false, 9);
        for (String keys : new String[] {"2", "3", "3", "4", "5", "6", "6", "7"}) {
            Hands.write(writer, keys);
        }
        Checks.due("13: before", "z/3/0/given a/1/1/added d/2/3/added g/1/4/added j/1/5/added m/2/7/added p/1/8/added",
            Hands.listed(writer));
        Hands.write(writer, "9");
        Checks.due("13: the numbers behind those that left decrease", "z/4/9/given d/1/3/added m/1/7/added",
            Hands.listed(writer));
        Checks.refused("13: no word behind them", Hands.INDEX, () -> writer.word(3, 0));
        Hands.type(writer, "6");
        Checks.due("13: a candidate by its new number", 2, writer.candidate(0));
        writer.undo();
        writer.undo();
        Checks.due("13: all are back by undo()", 7, writer.setting(Hands.WORDS));
        Checks.due("13: with their numbers", "p", Hands.wordAt(writer, 6));
    }

    private static void fiftiethWord() {
        KeypadWriter writer = Hands.writerWithFullList();
        writer.undo();
        Checks.due("13: 49 words", 49, writer.setting(Hands.WORDS));
        writer.accept();
        Checks.due("13: the 50th one makes none leave", 50, writer.setting(Hands.WORDS));
        Checks.due("13: the oldest added one", "da", Hands.wordAt(writer, 35));
        Checks.due("13: the 50th one", "gt", Hands.wordAt(writer, 49));
    }

    private static void wordOfTheFullListIsCounted() {
        KeypadWriter writer = Hands.writerWithFullList();
        Hands.write(writer, "9");
        Checks.due("13: a given word of the full list", 8, writer.word(22, Hands.COUNT));
        Hands.write(writer, "32");
        Checks.due("13: an added word of the full list", 2, writer.word(35, Hands.COUNT));
        Checks.due("13: none left", 50, writer.setting(Hands.WORDS));
        Checks.due("13: the last one", "gt", Hands.wordAt(writer, 49));
    }

    private static void lastAddedOneLeaves() {
        KeypadWriter writer = Hands.writerWithFullList();
        Hands.write(writer, "32");
        Checks.due("13: word 35 is used twice", 2, writer.word(35, Hands.COUNT));
        Checks.due("13: the oldest one of those used once", "dd", Hands.wordAt(writer, 36));
        Checks.due("13: a given one is behind it", 49, writer.word(26, Hands.RANK));
        Hands.write(writer, "52");
        Checks.due("13: a 51st word makes one leave", 50, writer.setting(Hands.WORDS));
        Checks.due("13: not the given one", "aa", Hands.wordAt(writer, 26));
        Checks.due("13: not the first added one", "da", Hands.wordAt(writer, 35));
        Checks.due("13: the number behind it decreases", "dg", Hands.wordAt(writer, 36));
        Checks.due("13: with its time", 3, writer.word(36, Hands.TIME));
        Checks.due("13: the new one is the last", "ja", Hands.wordAt(writer, 49));
        Checks.due("13: with the count 1", 1, writer.word(49, Hands.COUNT));
        Checks.due("13: with its time", 17, writer.word(49, Hands.TIME));
        Checks.due("13: and is an added one", 1, writer.word(49, Hands.ADDED));
        Hands.write(writer, "53");
        Checks.due("13: then the next one leaves", "dj", Hands.wordAt(writer, 36));
        Checks.due("13: the newest one stays", "ja", Hands.wordAt(writer, 48));
        writer.undo();
        Checks.due("13: undo() brings it back", "dg", Hands.wordAt(writer, 36));
        Checks.due("13: at its number", "ja", Hands.wordAt(writer, 49));
    }

    /** 35 given words, and "da" to "dw" and "ga" to "gt", each used twice: at time 31 a 51st one comes, and all age. */
    private static void fullListAgesWhileAWordComes() {
        KeypadWriter writer = Hands.writerWith(Hands.longestList());
        writer.setWays(false, 31);
        for (int word = 0; word < 15; word++) {
            String keys = word < 8 ? "3" + (2 + word) : "4" + (word - 6);
            Hands.write(writer, keys);
            Hands.write(writer, keys);
        }
        Checks.due("13: the full list at time 30", 50, writer.setting(Hands.WORDS));
        Checks.due("13: counts of 2", 2, writer.word(49, Hands.COUNT));
        writer.open(0);
        writer.press(2);
        writer.accept();
        Checks.due("13: one left, and one came", 50, writer.setting(Hands.WORDS));
        Checks.due("13: the one that was used first left", "dd", Hands.wordAt(writer, 35));
        Checks.due("13: the others have aged", 1, writer.word(35, Hands.COUNT));
        Checks.due("13: the last of them too", 1, writer.word(48, Hands.COUNT));
        Checks.due("13: the new one came", "daa", Hands.wordAt(writer, 49));
        Checks.due("13: and has not aged", 1, writer.word(49, Hands.COUNT));
        Checks.due("13: given ones have not aged", 1, writer.word(26, Hands.COUNT));
    }

    private static void fullListLosesAllButOne() {
        KeypadWriter writer = Hands.writerWithFullList();
        writer.setWays(false, 16);
        Hands.write(writer, "52");
        Checks.due("13: at time 16 all added ones but the new one leave", 36, writer.setting(Hands.WORDS));
        Checks.due("13: the new one", "ja", Hands.wordAt(writer, 35));
        Checks.due("13: has the count 1", 1, writer.word(35, Hands.COUNT));
        Checks.due("13: the given ones stay", "ai", Hands.wordAt(writer, 34));
        writer.undo();
        Checks.due("13: undo() brings them back", 50, writer.setting(Hands.WORDS));
        Checks.due("13: the last of them", "gt", Hands.wordAt(writer, 49));
    }

    private static void openEdges() {
        KeypadWriter writer = Hands.writerWithText(30);
        Checks.due("14: the first of 30", 1, writer.open(0));
        Checks.due("14: its letter", "a", Hands.places(writer));
        writer.accept();
        Checks.due("14: the last of 30", 1, writer.open(29));
        Checks.due("14: its letter", "p", Hands.places(writer));
        Checks.due("14: it is opened", 29, writer.setting(Hands.OPENED));
        writer.undo();
        Checks.refused("14: word 30 of 30", Hands.INDEX, () -> writer.open(30));
        Checks.refused("14: word NONE", Hands.INDEX, () -> writer.open(KeypadWriter.NONE));
        KeypadWriter single = Hands.writerWithText(1);
        Checks.refused("14: word 1 of 1", Hands.INDEX, () -> single.open(1));
        single.press(2);
        Checks.refused("14: one place of a present word", Hands.STATE, () -> single.open(0));
        single.erase();
        Checks.due("14: an empty present word", 1, single.open(0));
        Checks.refused("14: an opened word", Hands.STATE, () -> single.open(0));
        single.accept();
        Checks.due("14: behind accept()", 1, single.open(0));
        KeypadWriter longest = new KeypadWriter();
        Hands.write(longest, "9876543298");
        Checks.due("14: ten letters", 10, longest.open(0));
        Checks.due("14: all fixed", "wtpmjgdawt", Hands.places(longest));
        Checks.refused("8: an eleventh place of the opened word", Hands.STATE, () -> longest.press(2));
    }

    private static void openWhileTapping() {
        KeypadWriter writer = Hands.writerWithText(1);
        writer.mode(true);
        Checks.due("14: in the tapping mode", 1, writer.open(0));
        Checks.due("14: the mode stays", 1, writer.setting(Hands.TAPPING));
        Checks.due("14: no key is pending", -1, writer.setting(Hands.PENDING));
        Checks.due("14: so its last key adds a place", 2, writer.press(2));
        Checks.due("14: the places", "aa", Hands.places(writer));
        Checks.due("14: then it is pending", 2, writer.press(2));
        Checks.due("14: the places then", "ab", Hands.places(writer));
        writer.accept();
        Checks.due("14: the text", "ab", Hands.text(writer));
    }

    private static void openedWordHasCandidates() {
        KeypadWriter writer = Hands.writerWith("ad,5;bd,9;adz,9;");
        Hands.type(writer, "23");
        writer.next();
        writer.accept();
        writer.setWays(true, 10);
        writer.open(0);
        Checks.due("14: the word itself and longer ones", "ad adz", Hands.candidates(writer));
        Checks.due("14: the word itself is displayed", "ad", Hands.shown(writer));
        writer.undo();
        Hands.load(writer, "bd,9;adz,9;");
        writer.open(0);
        Checks.due("14: without it a longer one is displayed", "adz", Hands.shown(writer));
        Checks.due("14: the places are its letters", "ad", Hands.places(writer));
        Checks.due("14: it stays in the text", "ad", Hands.text(writer));
    }

    private static void openAgain() {
        KeypadWriter writer = Hands.writerWithText(3);
        writer.open(1);
        writer.erase();
        Checks.due("14: the text behind the one that left", "a g", Hands.text(writer));
        Checks.due("14: another one can be opened", 1, writer.open(1));
        Checks.due("14: the one that moved up", "g", Hands.places(writer));
        writer.erase();
        writer.open(0);
        writer.erase();
        Checks.due("14: all have left", "", Hands.text(writer));
        Hands.write(writer, "9");
        Checks.due("14: a new text", "w", Hands.text(writer));
    }
}
