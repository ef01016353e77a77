import java.util.ArrayList;
import java.util.List;

/** Promises 20 to 24 at their edges: steps, presses, clashing, saving, shortest. */
final class CostEdgesTest {
    private CostEdgesTest() {
    }

    public static void main(String[] args) {
        stepsByLength();
        stepsByRank();
        stepsOfFifty();
        pressesOfTheSameKey();
        pressesOfTheLongest();
        pressesOfFifty();
        clashingEdges();
        savingOfNothing();
        savingByCounts();
        savingOfLosses();
        shortestEdges();
        shortestOfEqualBeginnings();
        shortestOfUsedWords();
        costsOfNoWord();
        Checks.finish("CostEdgesTest");
    }

    private static void stepsByLength() {
        KeypadWriter writer = Hands.writerWith("a,1;ad,1;adg,9;b,9;be,9;ce,9;");
        int[] due = {1, 2, 0, 0, 0, 1};
        for (int word = 0; word < due.length; word++) {
            Checks.due("20: word " + word, due[word], writer.steps(word));
        }
        writer.setWays(true, 10);
        Checks.due("20: completing does not count", 2, writer.steps(1));
        Checks.refused("20: word 6 of 6", Hands.INDEX, () -> writer.steps(6));
        Checks.refused("20: word -1", Hands.INDEX, () -> writer.steps(-1));
    }

    private static void stepsByRank() {
        KeypadWriter writer = Hands.writerWith("cf,4;be,4;ad,4;aaaaaaaaab,1;aaaaaaaaaa,1;");
        int[] due = {2, 1, 0, 1, 0};
        for (int word = 0; word < due.length; word++) {
            Checks.due("20: alphabetically, word " + word, due[word], writer.steps(word));
        }
        Hands.type(writer, "23");
        Checks.due("20: next() is needed as often", 1, writer.next());
        Checks.due("20: next() is needed as often again", 2, writer.next());
        Checks.due("20: then the word is displayed", "cf", Hands.shown(writer));
        writer.accept();
        Checks.due("20: the used one is the first", 0, writer.steps(0));
        Checks.due("20: the others move", 2, writer.steps(1));
    }

    private static void stepsOfFifty() {
        KeypadWriter writer = Hands.writerWithClashingWords();
        List<String> given = new ArrayList<>(Hands.wordsOf777().subList(25, 50));
        List<String> ranked = new ArrayList<>(given);
        ranked.sort(null);
        for (int word = 0; word < 50; word++) {
            int due = word < 25 ? ranked.indexOf(given.get(word)) : 74 - word;
            Checks.due("20: of fifty, word " + word, due, writer.steps(word));
        }
        Checks.due("22: all fifty clash", 50, writer.clashing());
        Checks.refused("20: word 50 of 50", Hands.INDEX, () -> writer.steps(50));
        Checks.refused("21: word 50 of 50, tapping", Hands.INDEX, () -> writer.presses(50, true));
        Checks.refused("21: word 50 of 50, guessing", Hands.INDEX, () -> writer.presses(50, false));
        Checks.refused("24: word 50 of 50", Hands.INDEX, () -> writer.shortest(50));
    }

    private static void pressesOfTheSameKey() {
        String[] words = {"a", "z", "s", "aa", "ad", "ada", "cf", "cb", "szsz", "pqrs", "wxyz", "abcdef"};
        int[] taps = {1, 4, 4, 3, 2, 3, 6, 6, 16, 13, 13, 16};
        for (int i = 0; i < words.length; i++) {
            KeypadWriter writer = Hands.writerWith(words[i] + ",1;");
            Checks.due("21: tapping " + words[i], taps[i], writer.presses(0, true));
            Checks.due("21: guessing " + words[i], words[i].length(), writer.presses(0, false));
            writer.mode(true);
            Hands.tap(writer, words[i]);
            Checks.due("21: so many taps make " + words[i], words[i], Hands.shown(writer));
        }
    }

    private static void pressesOfTheLongest() {
        KeypadWriter writer = Hands.writerWith("zzzzzzzzzz,1;aaaaaaaaaa,1;szszszszsz,1;adgjmptwad,1;");
        int[] taps = {49, 19, 40, 10};
        for (int word = 0; word < taps.length; word++) {
            Checks.due("21: tapping ten letters, word " + word, taps[word], writer.presses(word, true));
            Checks.due("21: guessing ten letters, word " + word, 10, writer.presses(word, false));
        }
        writer.mode(true);
        Checks.due("21: the mode does not count", 10, writer.presses(0, false));
        Checks.refused("21: word -1, tapping", Hands.INDEX, () -> writer.presses(-1, true));
        Checks.refused("21: word 4 of 4, tapping", Hands.INDEX, () -> writer.presses(4, true));
        Checks.refused("21: word 4 of 4, guessing", Hands.INDEX, () -> writer.presses(4, false));
    }

    private static void pressesOfFifty() {
        KeypadWriter writer = Hands.writerWithClashingWords();
        Checks.due("21: tapping ppp", 5, writer.presses(25, true));
        Checks.due("21: guessing ppp", 3 + 49, writer.presses(25, false));
        Checks.due("21: guessing the newest one", 3 + 25, writer.presses(49, false));
        long saved = 0;
        long tapped = 0;
        for (int word = 0; word < 50; word++) {
            int count = word < 25 ? 5 : 1;
            long taps = writer.presses(word, true);
            saved += count * (taps - writer.presses(word, false));
            tapped += count * taps;
        }
        Checks.due("23: of fifty", (double) saved / (double) tapped, writer.saving());
        Checks.due("24: the first of fifty", 1, writer.shortest(first(writer)));
        Checks.due("24: the last of fifty", -1, writer.shortest(25));
    }

    /** The word that is the first candidate for the keys 777. */
    private static int first(KeypadWriter writer) {
        Hands.type(writer, "777");
        return writer.candidate(0);
    }

    private static void clashingEdges() {
        KeypadWriter writer = new KeypadWriter();
        Checks.due("22: no words", 0, writer.clashing());
        String[] texts = {
            "a,1;", "a,1;b,1;", "a,1;b,1;c,1;", "a,1;d,1;", "a,1;aa,1;", "ad,1;da,1;", "c,1;d,1;", "p,1;s,1;",
            "s,1;t,1;", "w,0;z,0;", "aaaaaaaaaa,1;aaaaaaaaad,1;", "aaaaaaaaaa,1;aaaaaaaaac,1;",
            "aaaaaaaaaa,1;daaaaaaaaa,1;", "a,1;d,1;b,1;e,1;g,1;"
        };
        int[] due = {0, 2, 3, 0, 0, 0, 0, 2, 0, 2, 0, 2, 0, 4};
        for (int i = 0; i < texts.length; i++) {
            Hands.load(writer, texts[i]);
            Checks.due("22: of " + texts[i], due[i], writer.clashing());
        }
        KeypadWriter full = Hands.writerWithFullList();
        // All 26 letters clash, "aa" to "ac", "ad" to "af" and "ag" to "ai" do, and none of the added ones does.
        Checks.due("22: of the full list", 35, full.clashing());
    }

    private static void savingOfNothing() {
        Checks.due("23: no words", 0.0, new KeypadWriter().saving());
        Checks.due("23: a count of 0", 0.0, Hands.writerWith("zz,0;").saving());
        Checks.due("23: counts of 0", 0.0, Hands.writerWith("zz,0;zy,00;zx,000;").saving());
        Checks.due("23: as many presses", 0.0, Hands.writerWith("a,5;").saving());
        Checks.due("23: one count above 0", (double) 7 / (double) 9, Hands.writerWith("a,0;zz,1;").saving());
        KeypadWriter writer = Hands.writerWith("zz,5;");
        writer.load();
        writer.undo();
        writer.undo();
        Checks.due("23: no words again", 0.0, writer.saving());
    }

    private static void savingByCounts() {
        Checks.due("23: a word as often as its count", (double) (2 * 3 + 7 * 0) / (double) (2 * 4 + 7 * 1),
            Hands.writerWith("z,2;a,7;").saving());
        Checks.due("23: large counts", (double) (999L * 39 + 999L * 30) / (double) (999L * 49 + 999L * 40),
            Hands.writerWith("zzzzzzzzzz,999;szszszszsz,999;").saving());
        KeypadWriter writer = Hands.writerWith("z,0;");
        Hands.write(writer, "9");
        Checks.due("23: a count by use", (double) 3 / (double) 4, writer.saving());
        Hands.write(writer, "2");
        Checks.due("23: an added word", (double) 3 / (double) 5, writer.saving());
    }

    private static void savingOfLosses() {
        Checks.due("23: a gain and a loss", (double) (9 * (2 - 1) + (1 - 2)) / (double) (9 * 2 + 1),
            Hands.writerWith("b,9;a,1;").saving());
        Checks.due("23: as much loss as gain", 0.0, Hands.writerWith("b,2;a,1;ad,2;ae,1;bd,1;").saving());
        KeypadWriter negative = Hands.writerWith("bd,5;cd,5;ae,5;ad,5;");
        // By rank ad, ae, bd, cd: taps 2, 3, 3, 4, and guesses 2, 3, 4, 5.
        Checks.due("23: less than 0", (double) -10 / (double) 60, negative.saving());
    }

    private static void shortestEdges() {
        Checks.due("24: the only word", 1, Hands.writerWith("zzzzzzzzzz,0;").shortest(0));
        Checks.due("24: a word of one letter", 1, Hands.writerWith("z,0;").shortest(0));
        KeypadWriter ten = Hands.writerWith("abcdefghij,9;abcdefghia,1;abcdefghib,0;");
        Checks.due("24: the first candidate by count", 1, ten.shortest(0));
        Checks.due("24: all of its ten keys", 10, ten.shortest(1));
        Checks.due("24: not even with all of them", -1, ten.shortest(2));
        KeypadWriter nine = Hands.writerWith("abcdefghij,9;abcdefgha,1;");
        Checks.due("24: all of its nine keys", 9, nine.shortest(1));
        Checks.due("24: the longer one", 1, nine.shortest(0));
        Checks.refused("24: word 2 of 2", Hands.INDEX, () -> nine.shortest(2));
        Checks.refused("24: word -1", Hands.INDEX, () -> nine.shortest(-1));
    }

    private static void shortestOfEqualBeginnings() {
        KeypadWriter writer = Hands.writerWith("a,0;ad,999;adg,999;b,1;bdgj,999;");
        // For 2 come b and a first, for 23 comes ad, for 234 comes adg, for 2345 comes bdgj.
        int[] due = {-1, 2, 3, 1, 4};
        for (int word = 0; word < due.length; word++) {
            Checks.due("24: behind shorter ones, word " + word, due[word], writer.shortest(word));
        }
        KeypadWriter tie = Hands.writerWith("cad,5;bad,5;aad,5;aadd,5;");
        int[] equal = {-1, -1, 1, 4};
        for (int word = 0; word < equal.length; word++) {
            Checks.due("24: equal counts, word " + word, equal[word], tie.shortest(word));
        }
    }

    private static void shortestOfUsedWords() {
        KeypadWriter writer = Hands.writerWith("adg,4;beg,3;");
        Checks.due("24: before its use", -1, writer.shortest(1));
        Hands.type(writer, "234");
        writer.next();
        writer.accept();
        Checks.due("24: behind its use", 1, writer.shortest(1));
        Checks.due("24: the other one", -1, writer.shortest(0));
        writer.mode(true);
        Hands.tap(writer, "ab");
        Checks.due("24: fixed letters, the mode and completing do not count", 1, writer.shortest(1));
    }

    private static void costsOfNoWord() {
        KeypadWriter writer = new KeypadWriter();
        Checks.refused("20: of no words", Hands.INDEX, () -> writer.steps(0));
        Checks.refused("21: of no words, tapping", Hands.INDEX, () -> writer.presses(0, true));
        Checks.refused("21: of no words, guessing", Hands.INDEX, () -> writer.presses(0, false));
        Checks.refused("24: of no words", Hands.INDEX, () -> writer.shortest(0));
    }
}
