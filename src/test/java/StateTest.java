/** Promises 25 and 26: undo and digest. */
final class StateTest {
    private StateTest() {
    }

    public static void main(String[] args) {
        undo();
        undoOfFour();
        undoOfKinds();
        callsThatSaveNothing();
        digestOfNew();
        digestOfBusy();
        Checks.finish("StateTest");
    }

    private static void undo() {
        KeypadWriter writer = Hands.writerWith("ad,5;be,5;");
        Hands.type(writer, "23");
        writer.next();
        Checks.due("25: undo of next", 3, writer.undo());
        Checks.due("25: the chosen one", 0, writer.setting(Hands.CHOSEN));
        Checks.due("25: undo of a press", 2, writer.undo());
        Checks.due("25: the places", "2", Hands.places(writer));
        writer.press(4);
        Checks.due("25: undo behind a new call", 2, writer.undo());
        Checks.due("25: the places again", "2", Hands.places(writer));
        Checks.due("25: undo of the first press", 1, writer.undo());
        Checks.due("25: undo of load", 0, writer.undo());
        Checks.due("25: no words", 0, writer.setting(Hands.WORDS));
        Checks.refusedBy(writer, "25: undo of nothing", Hands.STATE, writer::undo);
        Checks.due("25: the list text stays", 2, writer.load());
    }

    private static void undoOfFour() {
        KeypadWriter writer = new KeypadWriter();
        Hands.type(writer, "234567");
        for (int left = 3; left >= 0; left--) {
            Checks.due("25: saved states left", left, writer.undo());
            Checks.due("25: places left", 2 + left, writer.setting(Hands.PLACES));
        }
        Checks.refused("25: a fifth undo", Hands.STATE, writer::undo);
        Hands.type(writer, "89");
        Checks.due("25: behind the dropped ones", 1, writer.undo());
        Checks.due("25: the right places", "238", Hands.places(writer));
    }

    private static void undoOfKinds() {
        KeypadWriter writer = Hands.writerWith("ad,5;");
        Hands.write(writer, "4");
        Hands.load(writer, "be,5;cf,4;h,9;");
        writer.undo();
        Checks.due("25: given and added words are back", "ad/5/0/given g/1/1/added", Hands.listed(writer));
        writer.load();
        Checks.due("25: a load behind it", "be/5/0/given cf/4/0/given h/9/0/given", Hands.listed(writer));
    }

    private static void callsThatSaveNothing() {
        KeypadWriter writer = Hands.writerWith("ad,5;");
        writer.undo();
        writer.load();
        writer.word(0, 0);
        writer.letter(0, 0);
        writer.setting(0);
        writer.display(0);
        writer.steps(0);
        writer.presses(0, true);
        writer.clashing();
        writer.saving();
        writer.shortest(0);
        writer.digest();
        writer.append('x');
        writer.load();
        writer.clearText();
        Checks.refused("25: no candidates", Hands.STATE, writer::next);
        Checks.refused("25: nothing to erase", Hands.STATE, writer::erase);
        Checks.due("25: only load saved a state", 1, Hands.savedStates(writer));
        Checks.due("25: pause without a key saves", -1, writer.pause());
        writer.setWays(false, 10);
        writer.mode(false);
        Checks.due("25: calls that change nothing save", 3, Hands.savedStates(writer));
    }

    private static void digestOfNew() {
        long hash = 3271;
        for (int value : new int[] {0, 0, 0, 10, 0, 0, -1, 0, 0, -1, 0, -1, 0}) {
            hash = 31 * hash + value;
        }
        Checks.due("26: digest of a new writer", hash, new KeypadWriter().digest());
    }

    private static void digestOfBusy() {
        KeypadWriter writer = Hands.writerWith("ad,5;be,7;");
        writer.setWays(true, 9);
        Hands.write(writer, "23");
        Hands.write(writer, "456");
        writer.mode(true);
        Hands.type(writer, "22");
        writer.mode(false);
        writer.press(3);
        // The list text, the settings, three words, the places, the display, the text, the saved states.
        int[] values = {
            10, 3, 2, 9, 1, 0, -1, 2, 1, 0, 2, -1,
            2, 5, 0, 0, 1, 0, 3, 1,
            2, 8, 1, 0, 0, 1, 4, 0,
            3, 1, 2, 1, 2, 6, 9, 12, 0,
            101, 3,
            1, 4,
            2, 1, 4, 3, 6, 9, 12,
            4
        };
        long hash = 3271;
        for (int value : values) {
            hash = 31 * hash + value;
        }
        Checks.due("26: digest of a busy writer", hash, writer.digest());
        Checks.due("26: digest changes nothing", hash, writer.digest());
        writer.undo();
        Checks.due("26: undo changes the digest", 1, hash != writer.digest() ? 1 : 0);
        writer.press(3);
        Checks.due("26: and the same call brings it back", hash, writer.digest());
    }
}
