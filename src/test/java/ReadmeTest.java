import java.util.ArrayList;
import java.util.List;

/** The example of README.md, a call after the other, with the answers that it tells. */
final class ReadmeTest {
    private ReadmeTest() {
    }

    public static void main(String[] args) {
        KeypadWriter writer = new KeypadWriter();
        String list = "good,7;home,5;gone,5;";
        for (int i = 0; i < list.length(); i++) {
            writer.append(list.charAt(i));
        }
        Checks.due("load", 3, writer.load());
        List<Integer> places = new ArrayList<>();
        for (int key : new int[] {4, 6, 6, 3}) {
            places.add(writer.press(key));
        }
        Checks.due("places", "[1, 2, 3, 4]", places.toString());
        Checks.due("the display", "good", Hands.shown(writer));
        Checks.due("next", 1, writer.next());
        Checks.due("the next display", "gone", Hands.shown(writer));
        Checks.due("accept", 1, writer.accept());
        Checks.due("the text", "gone", Hands.text(writer));
        Checks.due("the count", 6, writer.word(2, Hands.COUNT));
        Checks.due("undo", 3, writer.undo());
        Checks.due("the display again", "gone", Hands.shown(writer));
        Checks.due("the text again", "", Hands.text(writer));
        Checks.finish("ReadmeTest");
    }
}
