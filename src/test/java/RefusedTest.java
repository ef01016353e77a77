import java.util.function.Consumer;
import java.util.function.Supplier;

/**
 * Every call that the document refuses, in writers of several kinds: the exception that is named, the one listed first
 * where several apply, and nothing changed, the saved states and the list text neither.
 */
final class RefusedTest {
    private static final int[] BYTES = {-1, 128, 129, 256 + 'a', Integer.MIN_VALUE, Integer.MAX_VALUE};
    private static final int[] AGEINGS = {0, 51, -1, 100, Integer.MIN_VALUE, Integer.MAX_VALUE};
    private static final int[] KEYS = {1, 10, 0, -1, 16, Integer.MIN_VALUE, Integer.MAX_VALUE};
    private static final int[] FAR = {-1, -2, 50, 100, Integer.MIN_VALUE, Integer.MAX_VALUE};

    private RefusedTest() {
    }

    public static void main(String[] args) {
        inEach("a new writer", KeypadWriter::new);
        inEach("a guessing writer", RefusedTest::guessing);
        inEach("a tapping writer", RefusedTest::tapping);
        inEach("a writer with ten places", RefusedTest::tenPlaces);
        inEach("a writer with ten places and a pending key", RefusedTest::tenLetters);
        inEach("a full text", RefusedTest::fullText);
        inEach("a full list", Hands::writerWithFullList);
        inEach("a full list text", RefusedTest::fullListText);
        emptyOnes();
        fullOnes();
        openedOnes();
        firstOfTwo();
        Checks.finish("RefusedTest");
    }

    private static KeypadWriter guessing() {
        KeypadWriter writer = Hands.writerWith("ad,5;be,4;adz,9;");
        writer.setWays(true, 7);
        Hands.write(writer, "23");
        Hands.write(writer, "45");
        Hands.type(writer, "23");
        writer.next();
        return writer;
    }

    /** Taps behind an opened word. */
    private static KeypadWriter tapping() {
        KeypadWriter writer = guessing();
        writer.erase();
        writer.erase();
        writer.mode(true);
        writer.open(1);
        Hands.tap(writer, "f");
        return writer;
    }

    private static KeypadWriter tenPlaces() {
        KeypadWriter writer = Hands.writerWith("ad,5;adgjmptwad,4;");
        Hands.write(writer, "9");
        Hands.type(writer, "2345678923");
        return writer;
    }

    private static KeypadWriter tenLetters() {
        KeypadWriter writer = Hands.writerWith("ad,5;adgjmptwad,4;");
        writer.mode(true);
        Hands.tap(writer, "adgjmptwad");
        return writer;
    }

    private static KeypadWriter fullText() {
        KeypadWriter writer = Hands.writerWithText(30);
        writer.press(2);
        return writer;
    }

    private static KeypadWriter fullListText() {
        KeypadWriter writer = Hands.writerWith(Hands.longestList().substring(0, 148) + "9;");
        writer.press(2);
        return writer;
    }

    /** The calls that are refused in every state, and those that the state itself makes wrong. */
    private static void inEach(String where, Supplier<KeypadWriter> maker) {
        KeypadWriter looked = maker.get();
        changingCalls(where, maker, looked.setting(Hands.WRITTEN));
        wordCalls(where, maker, looked.setting(Hands.WORDS));
        readingCalls(where, maker, looked);
    }

    private static void changingCalls(String where, Supplier<KeypadWriter> maker, int written) {
        for (int value : BYTES) {
            refused("2: append(" + value + ")", where, maker, Hands.ARGUMENT, writer -> writer.append(value));
        }
        for (int ageing : AGEINGS) {
            refused("5: setWays(true, " + ageing + ")", where, maker, Hands.ARGUMENT,
                writer -> writer.setWays(true, ageing));
            refused("5: setWays(false, " + ageing + ")", where, maker, Hands.ARGUMENT,
                writer -> writer.setWays(false, ageing));
        }
        for (int key : KEYS) {
            refused("8: press(" + key + ")", where, maker, Hands.ARGUMENT, writer -> writer.press(key));
        }
        refused("14: open() behind the last", where, maker, Hands.INDEX, writer -> writer.open(written));
        for (int index : FAR) {
            refused("14: open(" + index + ")", where, maker, Hands.INDEX, writer -> writer.open(index));
        }
    }

    private static void wordCalls(String where, Supplier<KeypadWriter> maker, int words) {
        wrongWord(where, maker, words);
        for (int word : FAR) {
            wrongWord(where, maker, word);
        }
        if (words == 0) {
            return;
        }
        for (int what : new int[] {-1, 5, Integer.MIN_VALUE, Integer.MAX_VALUE}) {
            refused("6: word(0, " + what + ")", where, maker, Hands.ARGUMENT, writer -> writer.word(0, what));
            refused("6: word(last, " + what + ")", where, maker, Hands.ARGUMENT,
                writer -> writer.word(words - 1, what));
        }
        for (int word : new int[] {0, words - 1}) {
            refused("7: letter behind the last of " + word, where, maker, Hands.INDEX,
                writer -> writer.letter(word, writer.word(word, Hands.LENGTH)));
            refused("7: letter -1 of " + word, where, maker, Hands.INDEX, writer -> writer.letter(word, -1));
            refused("7: letter 10 of " + word, where, maker, Hands.INDEX, writer -> writer.letter(word, 10));
        }
    }

    private static void wrongWord(String where, Supplier<KeypadWriter> maker, int word) {
        for (int what : new int[] {0, 4, 5, -1}) {
            refused("6: word(" + word + ", " + what + ")", where, maker, Hands.INDEX,
                writer -> writer.word(word, what));
        }
        refused("7: letter(" + word + ", 0)", where, maker, Hands.INDEX, writer -> writer.letter(word, 0));
        refused("7: letter(" + word + ", -1)", where, maker, Hands.INDEX, writer -> writer.letter(word, -1));
        refused("20: steps(" + word + ")", where, maker, Hands.INDEX, writer -> writer.steps(word));
        refused("21: presses(" + word + ", true)", where, maker, Hands.INDEX, writer -> writer.presses(word, true));
        refused("21: presses(" + word + ", false)", where, maker, Hands.INDEX, writer -> writer.presses(word, false));
        refused("24: shortest(" + word + ")", where, maker, Hands.INDEX, writer -> writer.shortest(word));
    }

    private static void readingCalls(String where, Supplier<KeypadWriter> maker, KeypadWriter looked) {
        int places = looked.setting(Hands.PLACES);
        int candidates = looked.setting(Hands.CANDIDATES);
        int written = looked.setting(Hands.WRITTEN);
        for (int what : new int[] {-1, 11, Integer.MIN_VALUE, Integer.MAX_VALUE}) {
            refused("15: setting(" + what + ")", where, maker, Hands.ARGUMENT, writer -> writer.setting(what));
        }
        refused("16: place() behind the last", where, maker, Hands.INDEX, writer -> writer.place(places));
        refused("17: display(-1)", where, maker, Hands.ARGUMENT, writer -> writer.display(-1));
        refused("17: display(MIN)", where, maker, Hands.ARGUMENT, writer -> writer.display(Integer.MIN_VALUE));
        refused("18: candidate() behind the last", where, maker, Hands.INDEX, writer -> writer.candidate(candidates));
        refused("19: written() behind the last", where, maker, Hands.INDEX, writer -> writer.written(written, -1));
        for (int index : FAR) {
            refused("16: place(" + index + ")", where, maker, Hands.INDEX, writer -> writer.place(index));
            refused("18: candidate(" + index + ")", where, maker, Hands.INDEX, writer -> writer.candidate(index));
            refused("19: written(" + index + ", -1)", where, maker, Hands.INDEX, writer -> writer.written(index, -1));
            refused("19: written(" + index + ", 0)", where, maker, Hands.INDEX, writer -> writer.written(index, 0));
        }
        for (int index = 0; index < written; index++) {
            int word = index;
            int length = looked.written(word, KeypadWriter.NONE);
            refused("19: letter -2 of " + word, where, maker, Hands.INDEX, writer -> writer.written(word, -2));
            refused("19: letter behind the last of " + word, where, maker, Hands.INDEX,
                writer -> writer.written(word, length));
        }
    }

    private static void emptyOnes() {
        for (boolean tapping : new boolean[] {false, true}) {
            Supplier<KeypadWriter> maker = () -> emptied(tapping);
            refused("11: next() of an empty word", "tapping " + tapping, maker, Hands.STATE, KeypadWriter::next);
            refused("12: erase() of an empty word", "tapping " + tapping, maker, Hands.STATE, KeypadWriter::erase);
            refused("13: accept() of an empty word", "tapping " + tapping, maker, Hands.STATE, KeypadWriter::accept);
        }
        refused("11: next()", "a new writer", KeypadWriter::new, Hands.STATE, KeypadWriter::next);
        refused("12: erase()", "a new writer", KeypadWriter::new, Hands.STATE, KeypadWriter::erase);
        refused("13: accept()", "a new writer", KeypadWriter::new, Hands.STATE, KeypadWriter::accept);
        refused("25: undo()", "a new writer", KeypadWriter::new, Hands.STATE, KeypadWriter::undo);
        refused("11: next() without candidates", "a tapping writer", RefusedTest::tapping, Hands.STATE,
            KeypadWriter::next);
        refused("25: undo() behind four", "a guessing writer", RefusedTest::undoneGuessing, Hands.STATE,
            KeypadWriter::undo);
    }

    private static KeypadWriter emptied(boolean tapping) {
        KeypadWriter writer = guessing();
        writer.mode(tapping);
        writer.erase();
        writer.erase();
        return writer;
    }

    private static KeypadWriter undoneGuessing() {
        KeypadWriter writer = guessing();
        Hands.savedStates(writer);
        return writer;
    }

    private static void fullOnes() {
        refused("2: append()", "150 bytes", RefusedTest::fullListText, Hands.STATE, writer -> writer.append('a'));
        refused("2: append(0)", "150 bytes", RefusedTest::fullListText, Hands.STATE, writer -> writer.append(0));
        refused("2: append(127)", "150 bytes", RefusedTest::fullListText, Hands.STATE, writer -> writer.append(127));
        for (int key = 2; key <= 9; key++) {
            int pressed = key;
            refused("8: press(" + key + ")", "ten places", RefusedTest::tenPlaces, Hands.STATE,
                writer -> writer.press(pressed));
            if (key != 3) {
                refused("8: press(" + key + ")", "ten places and the pending key 3", RefusedTest::tenLetters,
                    Hands.STATE, writer -> writer.press(pressed));
            }
        }
        refused("13: accept()", "30 words of the text", RefusedTest::fullText, Hands.STATE, KeypadWriter::accept);
        refused("13: accept() of an empty word", "30 words of the text", () -> Hands.writerWithText(30), Hands.STATE,
            KeypadWriter::accept);
    }

    private static void openedOnes() {
        for (int index = 0; index <= 1; index++) {
            int opened = index;
            refused("14: open(" + index + ")", "a present word", RefusedTest::guessing, Hands.STATE,
                writer -> writer.open(opened));
            refused("14: open(" + index + ")", "an opened word", RefusedTest::tapping, Hands.STATE,
                writer -> writer.open(opened));
        }
        refused("14: open(29)", "a present word and 30 words of the text", RefusedTest::fullText, Hands.STATE,
            writer -> writer.open(29));
    }

    private static void firstOfTwo() {
        refused("2: append(-1)", "150 bytes", RefusedTest::fullListText, Hands.ARGUMENT, writer -> writer.append(-1));
        refused("2: append(128)", "150 bytes", RefusedTest::fullListText, Hands.ARGUMENT,
            writer -> writer.append(128));
        refused("6: word(3, 5)", "three words", () -> Hands.writerWith("a,1;b,1;c,1;"), Hands.INDEX,
            writer -> writer.word(3, 5));
        refused("6: word(-1, -1)", "three words", () -> Hands.writerWith("a,1;b,1;c,1;"), Hands.INDEX,
            writer -> writer.word(-1, -1));
        refused("8: press(1)", "ten places", RefusedTest::tenPlaces, Hands.ARGUMENT, writer -> writer.press(1));
        refused("8: press(10)", "ten places", RefusedTest::tenPlaces, Hands.ARGUMENT, writer -> writer.press(10));
        refused("14: open(2)", "a present word", RefusedTest::guessing, Hands.INDEX, writer -> writer.open(2));
        refused("14: open(-1)", "a present word", RefusedTest::guessing, Hands.INDEX, writer -> writer.open(-1));
        refused("14: open(2)", "an opened word", RefusedTest::tapping, Hands.INDEX, writer -> writer.open(2));
        refused("14: open(30)", "30 words of the text", RefusedTest::fullText, Hands.INDEX, writer -> writer.open(30));
    }

    private static void refused(String what, String where, Supplier<KeypadWriter> maker,
            Class<? extends RuntimeException> want, Consumer<KeypadWriter> call) {
        Twins.refused(what + " in " + where, maker, want, call);
    }
}
