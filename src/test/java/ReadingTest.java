/** Promises 15 to 19: setting, place, display, candidate, written. */
final class ReadingTest {
    private ReadingTest() {
    }

    public static void main(String[] args) {
        setting();
        chosenAskedAlone();
        place();
        display();
        candidateOrder();
        candidatesOfMixedPlaces();
        candidate();
        written();
        Checks.finish("ReadingTest");
    }

    private static void settings(String when, KeypadWriter writer, int... due) {
        for (int what = 0; what < due.length; what++) {
            Checks.due("15: setting " + what + " " + when, due[what], writer.setting(what));
        }
    }

    private static void setting() {
        KeypadWriter writer = Hands.writerWith("ad,5;be,4;adz,9;");
        writer.setWays(true, 25);
        Hands.type(writer, "23");
        writer.next();
        settings("while guessing", writer, 3, 0, 25, 1, 0, -1, 2, 3, 1, 0, -1);
        writer.accept();
        writer.mode(true);
        settings("with an empty word", writer, 3, 1, 25, 1, 1, -1, 0, 0, -1, 1, -1);
        writer.open(0);
        writer.press(9);
        settings("while tapping", writer, 3, 1, 25, 1, 1, 9, 3, 0, -1, 1, 0);
        Checks.refusedBy(writer, "15: setting 11", Hands.ARGUMENT, () -> writer.setting(11));
        Checks.refused("15: setting -1", Hands.ARGUMENT, () -> writer.setting(-1));
        Checks.refused("15: setting MAX", Hands.ARGUMENT, () -> writer.setting(Integer.MAX_VALUE));
    }

    private static void chosenAskedAlone() {
        KeypadWriter writer = Hands.writerWith("ad,5;be,4;");
        Hands.type(writer, "23");
        Checks.due("15: the chosen one of two", 0, writer.setting(Hands.CHOSEN));
        writer.press(4);
        Checks.due("15: the chosen one of none", -1, writer.setting(Hands.CHOSEN));
        writer.erase();
        Checks.due("15: the chosen one of two again", 0, writer.setting(Hands.CHOSEN));
        writer.accept();
        Checks.due("15: the chosen one of an empty word", -1, writer.setting(Hands.CHOSEN));
    }

    private static void place() {
        KeypadWriter writer = new KeypadWriter();
        Checks.refused("16: place 0 of 0", Hands.INDEX, () -> writer.place(0));
        writer.mode(true);
        Hands.type(writer, "29999");
        writer.mode(false);
        Hands.type(writer, "29");
        int[] due = {100, 125, 2, 9};
        for (int index = 0; index < due.length; index++) {
            Checks.due("16: place " + index, due[index], writer.place(index));
        }
        Checks.refused("16: place 4 of 4", Hands.INDEX, () -> writer.place(4));
        Checks.refused("16: place -1", Hands.INDEX, () -> writer.place(-1));
        Hands.type(writer, "345678");
        Checks.due("16: place 9", 8, writer.place(9));
        Checks.refused("16: place 10 of 10", Hands.INDEX, () -> writer.place(10));
        Checks.refused("16: place MAX", Hands.INDEX, () -> writer.place(Integer.MAX_VALUE));
    }

    private static void display() {
        KeypadWriter writer = Hands.writerWith("zebra,5;");
        Checks.due("17: an empty display", -1, writer.display(0));
        Hands.type(writer, "93");
        Checks.due("17: first letters of keys", "wd", Hands.shown(writer));
        writer.setWays(true, 10);
        Checks.due("17: a candidate", "zebra", Hands.shown(writer));
        Checks.due("17: letter z", 25, writer.display(0));
        Checks.due("17: behind the last", -1, writer.display(5));
        Checks.due("17: far behind", -1, writer.display(Integer.MAX_VALUE));
        Checks.refused("17: index -1", Hands.ARGUMENT, () -> writer.display(-1));
        Checks.refused("17: index MIN", Hands.ARGUMENT, () -> writer.display(Integer.MIN_VALUE));
        writer.mode(true);
        Hands.type(writer, "7");
        Checks.due("17: fixed letters", "zep", Hands.shown(writer));
        writer.mode(false);
        writer.press(8);
        Checks.due("17: fixed letters and a key", "zept", Hands.shown(writer));
        KeypadWriter all = new KeypadWriter();
        Hands.type(all, "23456789");
        Checks.due("17: all keys", "adgjmptw", Hands.shown(all));
    }

    private static void candidateOrder() {
        KeypadWriter writer = Hands.writerWith("adz,99;cf,2;be,7;adw,99;ad,2;bd,2;b,900;g,9;beg,99;cfa,0;");
        Hands.type(writer, "23");
        Checks.due("18: by counts, then alphabetically", "be ad bd cf", Hands.candidates(writer));
        writer.setWays(true, 10);
        Checks.due("18: longer ones behind", "be ad bd cf adw adz beg cfa", Hands.candidates(writer));
        writer.next();
        writer.next();
        writer.next();
        writer.accept();
        Hands.write(writer, "4");
        Hands.write(writer, "23999");
        Hands.type(writer, "23");
        Checks.due("18: behind uses", "be cf ad bd adw adz beg adwww cfa", Hands.candidates(writer));
        Hands.load(writer, "ab,1;ac,1;bb,1;a,1;abb,1;");
        writer.erase();
        writer.erase();
        Hands.type(writer, "22");
        writer.next();
        writer.accept();
        Hands.type(writer, "22");
        Checks.due("18: the used one first", "ac ab bb abb", Hands.candidates(writer));
    }

    private static void candidatesOfMixedPlaces() {
        KeypadWriter writer = Hands.writerWith("abc,3;aca,5;bbc,9;acd,7;ab,1;abcd,8;cab,6;");
        writer.mode(true);
        Hands.type(writer, "2");
        writer.mode(false);
        Hands.type(writer, "22");
        Checks.due("18: a fixed letter and keys", "aca abc", Hands.candidates(writer));
        writer.setWays(true, 10);
        Checks.due("18: and a longer word", "aca abc abcd", Hands.candidates(writer));
        writer.next();
        writer.mode(true);
        Checks.due("18: all fixed", "abc abcd", Hands.candidates(writer));
        writer.pause();
        Hands.type(writer, "333");
        Checks.due("18: none", "", Hands.candidates(writer));
    }

    private static void candidate() {
        KeypadWriter writer = Hands.writerWith("be,4;ad,5;");
        Checks.refused("18: of an empty word", Hands.INDEX, () -> writer.candidate(0));
        Hands.type(writer, "23");
        Checks.due("18: the first", 1, writer.candidate(0));
        Checks.due("18: the second", 0, writer.candidate(1));
        writer.next();
        Checks.due("18: numbers do not move on", 1, writer.candidate(0));
        Checks.refusedBy(writer, "18: candidate 2 of 2", Hands.INDEX, () -> writer.candidate(2));
        Checks.refused("18: candidate -1", Hands.INDEX, () -> writer.candidate(-1));
        Checks.refused("18: candidate MAX", Hands.INDEX, () -> writer.candidate(Integer.MAX_VALUE));
    }

    private static void written() {
        KeypadWriter writer = Hands.writerWith("az,4;");
        Hands.write(writer, "29");
        Hands.write(writer, "2345678923");
        Checks.due("19: a length", 2, writer.written(0, KeypadWriter.NONE));
        Checks.due("19: letter a", 0, writer.written(0, 0));
        Checks.due("19: letter z", 25, writer.written(0, 1));
        Checks.due("19: length 10", 10, writer.written(1, -1));
        Checks.due("19: the tenth letter", 3, writer.written(1, 9));
        Checks.refused("19: letter 2 of 2", Hands.INDEX, () -> writer.written(0, 2));
        Checks.refused("19: letter 10 of 10", Hands.INDEX, () -> writer.written(1, 10));
        Checks.refused("19: letter -2", Hands.INDEX, () -> writer.written(0, -2));
        Checks.refused("19: letter MIN", Hands.INDEX, () -> writer.written(0, Integer.MIN_VALUE));
        Checks.refused("19: word 2 of 2", Hands.INDEX, () -> writer.written(2, -1));
        Checks.refused("19: word -1", Hands.INDEX, () -> writer.written(-1, -1));
        Hands.load(writer, "");
        Checks.due("19: the text needs no list", "az adgjmptwad", Hands.text(writer));
    }
}
