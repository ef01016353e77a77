/** Promises 8 to 12 at their edges: press, pause, mode, next, erase. AcceptEdgesTest has accept and open. */
final class WritingEdgesTest {
    private WritingEdgesTest() {
    }

    public static void main(String[] args) {
        lettersOfKeys();
        keysAddPlacesInTheGuessingMode();
        tapsGoAroundEachKey();
        tenPlacesOfKeys();
        tenPlacesOfLetters();
        tenPlacesFromTheGuessingMode();
        pendingKeyThatStays();
        pendingKeyThatGoes();
        pauseEdges();
        modeOfAnEmptyWord();
        modeOfTenPlaces();
        modeTakesTheChosenOne();
        modeTakesTheFirstLetters();
        modeThatThereIs();
        nextOfNone();
        nextOfOne();
        nextOfFifty();
        nextWhileTapping();
        candidatesOfTenPlaces();
        firstOneIsChosen();
        chosenOneStays();
        eraseFromTen();
        eraseTheLast();
        eraseAnOpenedWord();
        Checks.finish("WritingEdgesTest");
    }

    /** Each letter is a candidate for its own key alone: the last letter of a key, and the first one of the next. */
    private static void lettersOfKeys() {
        String alphabet = "abcdefghijklmnopqrstuvwxyz";
        KeypadWriter writer = Hands.writerWith(Hands.longestList().substring(0, 26 * 4));
        for (int key = 2; key <= 9; key++) {
            Checks.due("8: key " + key, 1, writer.press(key));
            Checks.due("8: letters of key " + key, String.join(" ", Hands.KEYS[key].split("")),
                Hands.candidates(writer));
            alphabet = alphabet.replace(Hands.KEYS[key], "");
            writer.erase();
        }
        Checks.due("8: letters without a key", "", alphabet);
    }

    private static void keysAddPlacesInTheGuessingMode() {
        KeypadWriter writer = new KeypadWriter();
        Checks.due("8: a key", 1, writer.press(7));
        Checks.due("8: no key is pending", -1, writer.setting(Hands.PENDING));
        Checks.due("8: the same key adds a place", 2, writer.press(7));
        Checks.due("8: and once more", 3, writer.press(7));
        Checks.due("8: the places are keys", "777", Hands.places(writer));
    }

    private static void tapsGoAroundEachKey() {
        for (int key = 2; key <= 9; key++) {
            KeypadWriter writer = new KeypadWriter();
            writer.mode(true);
            String letters = Hands.KEYS[key] + Hands.KEYS[key] + Hands.KEYS[key].charAt(0);
            for (int tap = 0; tap < letters.length(); tap++) {
                Checks.due("8: places behind tap " + tap + " on " + key, 1, writer.press(key));
                Checks.due("8: tap " + tap + " on " + key, letters.substring(tap, tap + 1), Hands.places(writer));
                Checks.due("8: pending behind tap " + tap + " on " + key, key, writer.setting(Hands.PENDING));
            }
            int other = key == 9 ? 2 : key + 1;
            Checks.due("8: another key adds a place", 2, writer.press(other));
            Checks.due("8: the first key then adds one too", 3, writer.press(key));
            Checks.due("8: with its first letter", Hands.KEYS[key].charAt(0) - 'a' + 100, writer.place(2));
        }
    }

    private static void tenPlacesOfKeys() {
        KeypadWriter writer = new KeypadWriter();
        for (int places = 1; places <= 10; places++) {
            Checks.due("8: place " + places, places, writer.press(2));
        }
        Checks.refused("8: an eleventh place of the same key", Hands.STATE, () -> writer.press(2));
        Checks.refused("8: an eleventh place of another key", Hands.STATE, () -> writer.press(3));
        Checks.due("8: ten places stay", "2222222222", Hands.places(writer));
        writer.erase();
        Checks.due("8: the tenth place again", 10, writer.press(9));
        Checks.due("8: it is the new key", "2222222229", Hands.places(writer));
        Checks.due("8: ten first letters are displayed", "aaaaaaaaaw", Hands.shown(writer));
    }

    private static void tenPlacesOfLetters() {
        KeypadWriter writer = new KeypadWriter();
        writer.mode(true);
        Hands.tap(writer, "adgjmptwa");
        Checks.due("8: the tenth place", 10, writer.press(9));
        String[] letters = {"x", "y", "z", "w"};
        for (String letter : letters) {
            Checks.due("8: the pending key at ten places", 10, writer.press(9));
            Checks.due("8: moves the tenth letter on", "adgjmptwa" + letter, Hands.places(writer));
        }
        Checks.refused("8: another key at ten places", Hands.STATE, () -> writer.press(8));
        Checks.due("8: the pending key is still there", 9, writer.setting(Hands.PENDING));
        writer.press(9);
        Checks.due("8: and moves on", "adgjmptwax", Hands.places(writer));
        writer.pause();
        Checks.refused("8: it would add a place behind pause()", Hands.STATE, () -> writer.press(9));
        writer.undo();
        Checks.due("8: but not when pause() is undone", 10, writer.press(9));
        writer.erase();
        Checks.due("8: the same key behind erase() adds a place", 10, writer.press(9));
        Checks.due("8: with its first letter", "adgjmptwaw", Hands.places(writer));
    }

    private static void tenPlacesFromTheGuessingMode() {
        KeypadWriter writer = new KeypadWriter();
        Hands.type(writer, "2345678922");
        writer.mode(true);
        Checks.refused("8: ten places and no pending key", Hands.STATE, () -> writer.press(2));
        writer.erase();
        Checks.due("8: the tenth place is tapped", 10, writer.press(2));
        Checks.due("8: and moved on", 10, writer.press(2));
        writer.mode(false);
        Checks.refused("8: ten fixed letters in the guessing mode", Hands.STATE, () -> writer.press(2));
        Checks.due("8: they stay", "adgjmptwab", Hands.places(writer));
    }

    private static void pendingKeyThatStays() {
        KeypadWriter writer = Hands.writerWith("a,5;ab,4;b,3;ba,2;c,1;");
        writer.mode(true);
        writer.press(2);
        writer.setWays(true, 10);
        writer.next();
        Checks.due("8: setWays() and next() leave the pending key", 1, writer.press(2));
        Checks.due("8: so the letter moves on", "b", Hands.places(writer));
        writer.load();
        Checks.due("8: load() leaves it too", 1, writer.press(2));
        Checks.due("8: so it moves on again", "c", Hands.places(writer));
        writer.undo();
        writer.undo();
        Checks.due("8: undo() brings it back", 1, writer.press(2));
        Checks.due("8: with its letter", "c", Hands.places(writer));
    }

    private static void pendingKeyThatGoes() {
        KeypadWriter writer = new KeypadWriter();
        writer.mode(true);
        writer.press(2);
        writer.pause();
        Checks.due("9: the key behind pause() adds a place", 2, writer.press(2));
        writer.mode(true);
        Checks.due("10: the key behind mode(true) adds a place", 3, writer.press(2));
        writer.mode(false);
        Checks.due("10: mode(false) takes it away", -1, writer.setting(Hands.PENDING));
        writer.mode(true);
        Checks.due("10: and mode(true) does not bring it back", 4, writer.press(2));
        writer.erase();
        Checks.due("12: the key behind erase() adds a place", 4, writer.press(2));
        writer.accept();
        Checks.due("13: accept() takes it away", -1, writer.setting(Hands.PENDING));
        Checks.due("13: the key behind accept() adds a place", 1, writer.press(2));
        writer.erase();
        writer.open(0);
        Checks.due("14: open() makes no key pending", -1, writer.setting(Hands.PENDING));
        Checks.due("14: the key of the last letter adds a place", 5, writer.press(2));
    }

    private static void pauseEdges() {
        KeypadWriter writer = new KeypadWriter();
        Checks.due("9: no key in the guessing mode", -1, writer.pause());
        writer.press(2);
        Checks.due("9: no key behind a press there", -1, writer.pause());
        Checks.due("9: the place stays", "2", Hands.places(writer));
        writer.mode(true);
        Checks.due("9: no key behind mode(true)", -1, writer.pause());
        for (int key = 2; key <= 9; key++) {
            writer.press(key);
            Checks.due("9: the pending key", key, writer.pause());
            Checks.due("9: there is none then", -1, writer.pause());
        }
        Checks.due("9: the letters stay", "aadgjmptw", Hands.places(writer));
    }

    private static void modeOfAnEmptyWord() {
        KeypadWriter writer = Hands.writerWith("ad,5;");
        writer.setWays(true, 10);
        boolean[] modes = {false, true, true, false};
        for (boolean tapping : modes) {
            Checks.due("10: no places by mode(" + tapping + ")", 0, writer.mode(tapping));
            Checks.due("10: the mode " + tapping, tapping ? 1 : 0, writer.setting(Hands.TAPPING));
            Checks.due("10: the display is empty", -1, writer.display(0));
        }
    }

    private static void modeOfTenPlaces() {
        KeypadWriter writer = Hands.writerWith("zyxwvutsrz,5;zyxwvutsry,5;");
        Hands.type(writer, "9999888779");
        Checks.due("10: ten places", 10, writer.mode(false));
        Checks.due("10: they stay keys", "9999888779", Hands.places(writer));
        writer.next();
        Checks.due("10: ten places again", 10, writer.mode(true));
        Checks.due("10: they are the ten letters of the chosen one", "zyxwvutsrz", Hands.places(writer));
        Checks.due("10: ten places to the guessing mode", 10, writer.mode(false));
        Checks.due("10: they stay letters", "zyxwvutsrz", Hands.places(writer));
        KeypadWriter blind = new KeypadWriter();
        Hands.type(blind, "9999888779");
        blind.mode(true);
        Checks.due("10: first letters without candidates", "wwwwtttppw", Hands.places(blind));
    }

    private static void modeTakesTheChosenOne() {
        KeypadWriter writer = Hands.writerWith("ad,9;bd,8;cf,7;bdz,6;");
        writer.setWays(true, 10);
        Hands.type(writer, "23");
        writer.next();
        Checks.due("10: the second one is displayed", "bd", Hands.shown(writer));
        writer.mode(true);
        Checks.due("10: its letters are fixed", "bd", Hands.places(writer));
        Checks.due("10: they have candidates of their own", "bd bdz", Hands.candidates(writer));
        Checks.due("10: the first of them is chosen", 0, writer.setting(Hands.CHOSEN));
        writer.undo();
        Checks.due("10: undone: the keys", "23", Hands.places(writer));
        Checks.due("10: undone: the chosen one", 1, writer.setting(Hands.CHOSEN));
    }

    private static void modeTakesTheFirstLetters() {
        KeypadWriter writer = Hands.writerWith("abcdefghij,5;b,4;");
        writer.setWays(true, 10);
        writer.press(2);
        Checks.due("10: a word as long as the places comes first", "b", Hands.shown(writer));
        writer.next();
        Checks.due("10: a display of ten letters", "abcdefghij", Hands.shown(writer));
        Checks.due("10: one place", 1, writer.mode(true));
        Checks.due("10: its first letter", "a", Hands.places(writer));
        Checks.due("10: is the display", "a", Hands.shown(writer));
        writer.mode(false);
        Hands.type(writer, "22333444");
        Checks.due("10: nine places", 9, writer.mode(true));
        Checks.due("10: nine letters of ten", "abcdefghi", Hands.places(writer));
    }

    private static void modeThatThereIs() {
        KeypadWriter writer = Hands.writerWith("a,5;b,4;c,3;");
        writer.press(2);
        writer.next();
        Checks.due("10: to the guessing mode that there is", 1, writer.mode(false));
        Checks.due("10: the place stays a key", "2", Hands.places(writer));
        Checks.due("10: the first one is chosen", "a", Hands.shown(writer));
        writer.mode(true);
        writer.press(3);
        Checks.due("10: to the tapping mode that there is", 2, writer.mode(true));
        Checks.due("10: the letters stay", "ad", Hands.places(writer));
        Checks.due("10: no key is pending", -1, writer.setting(Hands.PENDING));
    }

    private static void nextOfNone() {
        KeypadWriter writer = Hands.writerWith("ad,5;");
        writer.setWays(true, 10);
        Checks.refused("11: an empty present word has none", Hands.STATE, writer::next);
        Hands.type(writer, "24");
        Checks.refused("11: another key", Hands.STATE, writer::next);
        writer.erase();
        Hands.type(writer, "33");
        Checks.refused("11: more places than letters", Hands.STATE, writer::next);
        writer.erase();
        writer.erase();
        Checks.due("11: a longer word, completing", 0, writer.next());
        writer.setWays(false, 10);
        Checks.refused("11: a longer word, not completing", Hands.STATE, writer::next);
        writer.press(3);
        Checks.due("11: a word as long as the places", 0, writer.next());
    }

    private static void nextOfOne() {
        KeypadWriter writer = Hands.writerWith("ad,5;");
        Hands.type(writer, "23");
        Checks.due("11: behind the only one comes the only one", 0, writer.next());
        Checks.due("11: and again", 0, writer.next());
        Checks.due("11: displayed", "ad", Hands.shown(writer));
        Checks.due("11: each saved a state", 3, writer.undo());
        Checks.due("11: the keys are still there", 2, writer.setting(Hands.PLACES));
    }

    private static void nextOfFifty() {
        KeypadWriter writer = Hands.writerWithFullList();
        writer.setWays(true, 50);
        writer.press(2);
        Checks.due("11: on key 2 of the full list", "a b c ai ah ag af ae ad ac ab aa", Hands.candidates(writer));
        for (int number = 1; number <= 11; number++) {
            Checks.due("11: next", number, writer.next());
        }
        Checks.due("11: the last one", "aa", Hands.shown(writer));
        Checks.due("11: behind it the first one", 0, writer.next());
        Checks.due("11: is displayed", "a", Hands.shown(writer));
        KeypadWriter fifty = Hands.writerWithClashingWords();
        Hands.type(fifty, "777");
        for (int number = 1; number <= 49; number++) {
            Checks.due("11: next of fifty", number, fifty.next());
        }
        Checks.due("11: number 49 is the oldest added one", "ppp", Hands.shown(fifty));
        Checks.due("11: behind fifty the first one", 0, fifty.next());
    }

    private static void nextWhileTapping() {
        KeypadWriter writer = Hands.writerWith("ab,5;abz,4;");
        writer.setWays(true, 10);
        writer.mode(true);
        Hands.tap(writer, "ab");
        Checks.due("11: moves on in the tapping mode", 1, writer.next());
        Checks.due("11: not displayed there", "ab", Hands.shown(writer));
        Checks.due("11: around in the tapping mode", 0, writer.next());
        writer.next();
        writer.accept();
        Checks.due("11: nor accepted", "ab", Hands.text(writer));
    }

    private static void candidatesOfTenPlaces() {
        KeypadWriter writer = Hands.writerWith("abcdefghij,4;abcdefghik,5;abcdefghim,9;abcdefghi,9;");
        Hands.type(writer, "22233344");
        Checks.due("11: none of eight letters", 0, writer.setting(Hands.CANDIDATES));
        writer.press(4);
        Checks.due("11: one of nine letters", "abcdefghi", Hands.candidates(writer));
        writer.setWays(true, 10);
        Checks.due("11: behind it those of ten", "abcdefghi abcdefghim abcdefghik abcdefghij",
            Hands.candidates(writer));
        writer.press(5);
        Checks.due("11: those of ten on their keys", "abcdefghik abcdefghij", Hands.candidates(writer));
        Checks.due("11: next of ten places", 1, writer.next());
        Checks.due("11: ten letters are displayed", "abcdefghij", Hands.shown(writer));
        writer.setWays(false, 10);
        Checks.due("11: not completing there are the same", "abcdefghik abcdefghij", Hands.candidates(writer));
        writer.mode(true);
        Checks.due("11: ten fixed letters", "abcdefghik", Hands.candidates(writer));
        writer.accept();
        Checks.due("11: the word of ten is counted", 6, writer.word(1, Hands.COUNT));
    }

    /** A writer that has chosen candidate 1 of some, with completing on. */
    private static KeypadWriter chooser() {
        KeypadWriter writer = Hands.writerWith("ad,9;bd,8;adg,7;adh,6;a,5;b,4;");
        writer.setWays(true, 10);
        Hands.type(writer, "23");
        writer.next();
        Checks.due("11: the second one is chosen", 1, writer.setting(Hands.CHOSEN));
        return writer;
    }

    private static void firstOneIsChosen() {
        KeypadWriter writer = chooser();
        writer.load();
        Checks.due("4: load() chooses the first", 0, writer.setting(Hands.CHOSEN));
        writer = chooser();
        writer.setWays(true, 10);
        Checks.due("5: setWays() chooses the first", 0, writer.setting(Hands.CHOSEN));
        writer = chooser();
        writer.press(4);
        Checks.due("8: press() chooses the first", 0, writer.setting(Hands.CHOSEN));
        writer.mode(true);
        writer.erase();
        writer.erase();
        writer.erase();
        writer.press(2);
        writer.next();
        Checks.due("11: the second one is chosen while tapping", 1, writer.setting(Hands.CHOSEN));
        writer.press(2);
        Checks.due("8: its letter moved on", "b bd", Hands.candidates(writer));
        Checks.due("8: press() of the pending key chooses the first", 0, writer.setting(Hands.CHOSEN));
        writer = chooser();
        writer.mode(false);
        Checks.due("10: mode(false) chooses the first", 0, writer.setting(Hands.CHOSEN));
        writer = chooser();
        writer.mode(true);
        Checks.due("10: mode(true) chooses the first", 0, writer.setting(Hands.CHOSEN));
        writer = chooser();
        writer.erase();
        Checks.due("12: erase() chooses the first", 0, writer.setting(Hands.CHOSEN));
        writer = chooser();
        writer.accept();
        Checks.due("13: accept() leaves none", -1, writer.setting(Hands.CHOSEN));
        writer.open(0);
        Checks.due("14: open() chooses the first", 0, writer.setting(Hands.CHOSEN));
    }

    private static void chosenOneStays() {
        KeypadWriter writer = chooser();
        writer.pause();
        Checks.due("9: pause() leaves the chosen one", 1, writer.setting(Hands.CHOSEN));
        writer.append('-');
        Checks.due("4: a wrong text", -10 - 30, writer.load());
        Checks.due("4: leaves the chosen one", 1, writer.setting(Hands.CHOSEN));
        writer.clearText();
        Checks.due("3: clearText() leaves it", 1, writer.setting(Hands.CHOSEN));
        writer.next();
        writer.undo();
        Checks.due("25: undo() brings it back", 1, writer.setting(Hands.CHOSEN));
    }

    private static void eraseFromTen() {
        KeypadWriter writer = new KeypadWriter();
        Hands.type(writer, "2345678923");
        for (int places = 9; places >= 1; places--) {
            Checks.due("12: places left", places, writer.erase());
            Checks.due("12: the first ones", "2345678923".substring(0, places), Hands.places(writer));
        }
    }

    private static void eraseTheLast() {
        KeypadWriter writer = Hands.writerWithText(2);
        writer.press(7);
        Checks.due("12: the only place", 0, writer.erase());
        Checks.due("12: the text stays", "a d", Hands.text(writer));
        Checks.refused("12: an empty present word", Hands.STATE, writer::erase);
        Checks.due("12: it can be written again", 1, writer.press(2));
    }

    private static void eraseAnOpenedWord() {
        for (int index : new int[] {0, 14, 29}) {
            KeypadWriter writer = Hands.writerWithText(30);
            String[] words = Hands.text(writer).split(" ");
            writer.open(index);
            Checks.due("12: the opened word " + index, 0, writer.erase());
            words[index] = "";
            Checks.due("12: left the text", String.join(" ", words).replace("  ", " ").trim(), Hands.text(writer));
            Checks.due("12: 29 words are left", 29, writer.setting(Hands.WRITTEN));
            Checks.due("12: none is opened", -1, writer.setting(Hands.OPENED));
            writer.undo();
            Checks.due("12: it is back behind undo()", 30, writer.setting(Hands.WRITTEN));
            Checks.due("12: and opened", index, writer.setting(Hands.OPENED));
        }
        KeypadWriter longer = Hands.writerWithText(1);
        longer.open(0);
        longer.press(3);
        Checks.due("12: one place of the opened word is left", 1, longer.erase());
        Checks.due("12: it is still opened", 0, longer.setting(Hands.OPENED));
        longer.press(4);
        longer.erase();
        longer.erase();
        Checks.due("12: the only word of the text left", 0, longer.setting(Hands.WRITTEN));
        Checks.refused("14: there is no word to open", Hands.INDEX, () -> longer.open(0));
    }
}
