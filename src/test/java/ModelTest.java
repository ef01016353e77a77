import java.util.function.LongSupplier;

/** Plays the same runs of calls on the class and on the plain writer, and compares every answer and digest. */
final class ModelTest {
    private static final int RUNS = 600;
    private static final int CALLS = 512;
    private static final int[] ODD = {Integer.MIN_VALUE, Integer.MAX_VALUE, -2, -1, 10, 11, 50, 51, 128};

    private final KeypadWriter writer = new KeypadWriter();
    private final PlainWriter plain = new PlainWriter();
    private final int run;
    private final int keys;
    private long seed;
    private int calls = 0;

    private ModelTest(int run) {
        this.run = run;
        this.seed = 77L * run + 5;
        // Few keys let many words clash; all keys let few.
        this.keys = new int[] {1, 2, 3, 8}[run % 4];
    }

    public static void main(String[] args) {
        for (int run = 0; run < RUNS; run++) {
            new ModelTest(run).play();
        }
        Checks.finish("ModelTest");
    }

    private void play() {
        if (crowded()) {
            crowd();
        }
        while (calls < CALLS) {
            int kind = upTo(100);
            if (crowded() && kind < 80) {
                learn();
            } else if (kind < 2) {
                readList();
            } else if (run % 3 == 0 && kind < 30) {
                learn();
            } else if (kind < 70) {
                write();
            } else if (kind < 97) {
                ask();
            } else {
                odd();
            }
            if (upTo(3) == 0) {
                compare("digest()", writer::digest, plain::digest);
            }
        }
    }

    /** Whether the run is one of those that fill the word list, which few others come to. */
    private boolean crowded() {
        return run % 10 == 3;
    }

    /** Begins with 35 given words of low counts, which none of the added ones has to age beside. */
    private void crowd() {
        StringBuilder text = new StringBuilder();
        for (char letter = 'a'; letter <= 'z'; letter++) {
            text.append(letter).append(',').append(upTo(3)).append(';');
        }
        for (char letter = 'a'; letter <= 'i'; letter++) {
            text.append('a').append(letter).append(',').append(upTo(3)).append(';');
        }
        appendAll(text);
        compare("setWays(false, 50)", () -> writer.setWays(false, 50), () -> plain.setWays(false, 50));
    }

    /** A list text, right or with a wrong byte. */
    private void readList() {
        compare("clearText()", writer::clearText, plain::clearText);
        StringBuilder text = new StringBuilder();
        int items = upTo(upTo(2) == 0 ? 38 : 8);
        for (int i = 0; i < items; i++) {
            int length = 1 + upTo(upTo(4) == 0 ? 10 : 3);
            for (int j = 0; j < length; j++) {
                text.append(letter());
            }
            text.append(',').append(upTo(upTo(3) == 0 ? 1000 : 4)).append(';');
        }
        if (upTo(3) == 0 && text.length() > 0) {
            text.setCharAt(upTo(text.length()), ",;a1 z9A".charAt(upTo(8)));
        }
        appendAll(text);
    }

    private void appendAll(StringBuilder text) {
        for (int i = 0; i < text.length() && i < 151; i++) {
            int value = text.charAt(i);
            compare("append(" + value + ")", () -> writer.append(value), () -> plain.append(value));
        }
        compare("load()", writer::load, plain::load);
    }

    /** Puts a word into the list, over an opened word if the text is full. */
    private void learn() {
        if (plain.setting(9) == 30) {
            int index = upTo(30);
            compare("open(" + index + ")", () -> writer.open(index), () -> plain.open(index));
        }
        int length = 1 + upTo(3);
        for (int i = 0; i < length; i++) {
            press();
        }
        compare("accept()", writer::accept, plain::accept);
    }

    private void press() {
        int key = 2 + upTo(keys);
        compare("press(" + key + ")", () -> writer.press(key), () -> plain.press(key));
    }

    private void write() {
        boolean on = upTo(2) == 0;
        int index = upTo(4);
        switch (upTo(16)) {
            case 0: compare("pause()", writer::pause, plain::pause); break;
            case 1: compare("mode(" + on + ")", () -> writer.mode(on), () -> plain.mode(on)); break;
            case 2: case 3: case 4: compare("next()", writer::next, plain::next); break;
            case 5: compare("erase()", writer::erase, plain::erase); break;
            case 6: case 7: case 8: compare("accept()", writer::accept, plain::accept); break;
            case 9: compare("open(" + index + ")", () -> writer.open(index), () -> plain.open(index)); break;
            case 10: compare("undo()", writer::undo, plain::undo); break;
            case 11: setWays(on); break;
            default: press(); break;
        }
    }

    private void setWays(boolean on) {
        int ageing = 1 + upTo(run % 3 == 0 ? 50 : 5);
        compare("setWays(" + on + ", " + ageing + ")", () -> writer.setWays(on, ageing),
            () -> plain.setWays(on, ageing));
    }

    private void ask() {
        asking(upTo(1 + plain.setting(0)), upTo(12));
    }

    private void odd() {
        int value = ODD[upTo(ODD.length)];
        switch (upTo(4)) {
            case 0: compare("append(" + value + ")", () -> writer.append(value), () -> plain.append(value)); break;
            case 1: compare("press(" + value + ")", () -> writer.press(value), () -> plain.press(value)); break;
            case 2: compare("open(" + value + ")", () -> writer.open(value), () -> plain.open(value)); break;
            default: compare("setWays(true, " + value + ")", () -> writer.setWays(true, value),
                () -> plain.setWays(true, value)); break;
        }
        asking(ODD[upTo(ODD.length)], ODD[upTo(ODD.length)]);
    }

    private void asking(int word, int index) {
        boolean on = upTo(2) == 0;
        String both = "(" + word + ", " + index + ")";
        switch (upTo(13)) {
            case 0: compare("word" + both, () -> writer.word(word, index), () -> plain.word(word, index)); break;
            case 1: compare("letter" + both, () -> writer.letter(word, index), () -> plain.letter(word, index)); break;
            case 2: compare("setting " + index, () -> writer.setting(index), () -> plain.setting(index)); break;
            case 3: compare("place " + index, () -> writer.place(index), () -> plain.place(index)); break;
            case 4: compare("display " + index, () -> writer.display(index), () -> plain.display(index)); break;
            case 5: compare("candidate " + word, () -> writer.candidate(word), () -> plain.candidate(word)); break;
            case 6: compare("written" + both, () -> writer.written(word, index - 1),
                () -> plain.written(word, index - 1)); break;
            case 7: compare("steps " + word, () -> writer.steps(word), () -> plain.steps(word)); break;
            case 8: compare("presses " + word + on, () -> writer.presses(word, on), () -> plain.presses(word, on));
                break;
            case 9: compare("clashing()", writer::clashing, plain::clashing); break;
            case 10: compare("saving()", () -> Double.doubleToLongBits(writer.saving()),
                () -> Double.doubleToLongBits(plain.saving())); break;
            default: compare("shortest " + word, () -> writer.shortest(word), () -> plain.shortest(word)); break;
        }
    }

    private void compare(String call, LongSupplier got, LongSupplier want) {
        if (calls < CALLS) {
            calls++;
            Checks.due("run " + run + ", call " + calls + ": " + call, answer(want), answer(got));
        }
    }

    private static String answer(LongSupplier call) {
        try {
            return Long.toString(call.getAsLong());
        } catch (RuntimeException e) {
            return e.getClass().getName();
        }
    }

    private char letter() {
        int key = upTo(keys);
        String letters = new String[] {"abc", "def", "ghi", "jkl", "mno", "pqrs", "tuv", "wxyz"}[key];
        return letters.charAt(upTo(letters.length()));
    }

    private int upTo(int bound) {
        seed = seed * 6364136223846793005L + 1442695040888963407L;
        return (int) ((seed >>> 33) % bound);
    }
}
