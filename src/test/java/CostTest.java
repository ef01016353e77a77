/** Promises 20 to 24: steps, presses, clashing, saving, shortest. */
final class CostTest {
    private CostTest() {
    }

    public static void main(String[] args) {
        steps();
        presses();
        clashing();
        saving();
        shortest();
        Checks.finish("CostTest");
    }

    private static void steps() {
        KeypadWriter writer = Hands.writerWith("be,5;ad,5;cf,9;adz,99;b,99;ce,5;");
        int[] due = {2, 1, 0, 0, 0, 3};
        for (int word = 0; word < due.length; word++) {
            Checks.due("20: steps of word " + word, due[word], writer.steps(word));
        }
        writer.setWays(true, 10);
        Hands.type(writer, "2");
        Checks.due("20: beginning with an empty word, completing or not", 2, writer.steps(0));
        Checks.refused("20: word 6", Hands.INDEX, () -> writer.steps(6));
        Checks.refused("20: word -1", Hands.INDEX, () -> writer.steps(-1));
        Checks.refused("20: word MIN", Hands.INDEX, () -> writer.steps(Integer.MIN_VALUE));
        writer.erase();
        Hands.type(writer, "23");
        writer.next();
        writer.next();
        writer.next();
        writer.accept();
        Checks.due("20: a used word comes up", 1, writer.steps(5));
    }

    private static void presses() {
        KeypadWriter writer = Hands.writerWith("aaa,5;bbb,6;sz,9;abcdefghij,1;ada,1;");
        int[] tapped = {5, 8, 8, 3 * 6 + 1 + 6, 3};
        int[] guessed = {4, 3, 2, 10, 3};
        for (int word = 0; word < tapped.length; word++) {
            Checks.due("21: tapping word " + word, tapped[word], writer.presses(word, true));
            Checks.due("21: guessing word " + word, guessed[word], writer.presses(word, false));
        }
        Checks.refused("21: word 5", Hands.INDEX, () -> writer.presses(5, true));
        Checks.refused("21: word -1", Hands.INDEX, () -> writer.presses(-1, false));
        KeypadWriter letters = Hands.writerWith(
            "a,1;b,1;c,1;d,1;e,1;f,1;g,1;h,1;i,1;j,1;k,1;l,1;m,1;n,1;o,1;p,1;q,1;r,1;s,1;t,1;u,1;v,1;w,1;x,1;y,1;z,1;");
        String taps = "12312312312312312341231234";
        for (int letter = 0; letter < 26; letter++) {
            Checks.due("21: tapping letter " + letter, taps.charAt(letter) - '0', letters.presses(letter, true));
            Checks.due("21: guessing letter " + letter, taps.charAt(letter) - '0', letters.presses(letter, false));
        }
    }

    private static void clashing() {
        KeypadWriter writer = new KeypadWriter();
        Checks.due("22: no words", 0, writer.clashing());
        Hands.load(writer, "ad,5;be,5;cf,9;adz,99;b,99;");
        Checks.due("22: three of five", 3, writer.clashing());
        Hands.load(writer, "ad,5;be,5;a,0;c,0;cat,1;");
        Checks.due("22: two pairs", 4, writer.clashing());
        Hands.load(writer, "ad,5;da,5;add,1;");
        Checks.due("22: none", 0, writer.clashing());
    }

    private static void saving() {
        KeypadWriter writer = new KeypadWriter();
        Checks.due("23: no words", 0.0, writer.saving());
        Hands.load(writer, "ad,0;be,0;");
        Checks.due("23: counts of 0", 0.0, writer.saving());
        Hands.load(writer, "be,5;cf,2;");
        Checks.due("23: two words", (double) (5 * (4 - 2) + 2 * (6 - 3)) / (double) (5 * 4 + 2 * 6), writer.saving());
        Hands.load(writer, "a,9;b,9;c,9;ad,9;d,1;");
        Checks.due("23: none of the presses", (double) 0 / (double) 73, writer.saving());
        Hands.load(writer, "ad,7;ae,7;ag,3;m,1;n,1;o,1;am,5;an,4;bm,3;");
        long saved = 7 * (2 - 2) + 7 * (3 - 3) + 0 + 0 + 0 + 0 + 5 * (2 - 2) + 4 * (3 - 3) + 3 * (3 - 4);
        long tapped = 7 * 2 + 7 * 3 + 3 * 2 + 1 + 2 + 3 + 5 * 2 + 4 * 3 + 3 * 3;
        Checks.due("23: a loss", (double) saved / (double) tapped, writer.saving());
        Hands.load(writer, "zzzzzzzzzz,999;");
        Checks.due("23: a large one", (double) (999L * (49 - 10)) / (double) (999L * 49), writer.saving());
    }

    private static void shortest() {
        KeypadWriter writer = Hands.writerWith("ad,5;be,5;cfa,9;a,1;b,0;being,3;");
        int[] due = {2, -1, 3, 1, -1, 3};
        for (int word = 0; word < due.length; word++) {
            Checks.due("24: shortest of word " + word, due[word], writer.shortest(word));
        }
        Checks.due("24: completing or not", 10, writer.setWays(true, 10));
        Hands.type(writer, "9");
        Checks.due("24: the present word or not", 3, writer.shortest(5));
        Hands.load(writer, "adza,9;zoo,1;adg,99;beg,98;");
        int[] again = {3, 1, 1, -1};
        for (int word = 0; word < again.length; word++) {
            Checks.due("24: shortest again of word " + word, again[word], writer.shortest(word));
        }
        Checks.refused("24: word 4", Hands.INDEX, () -> writer.shortest(4));
        Checks.refused("24: word -1", Hands.INDEX, () -> writer.shortest(-1));
    }
}
