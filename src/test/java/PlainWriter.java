import java.util.ArrayList;
import java.util.Comparator;
import java.util.List;

/** The document's writer once more, with texts and lists and without a thought of speed: ModelTest compares both. */
final class PlainWriter {
    private static final String[] KEYS = {"", "", "abc", "def", "ghi", "jkl", "mno", "pqrs", "tuv", "wxyz"};

    /** A word of the list. */
    private record Entry(String word, int count, int time, boolean added) {
    }

    /** All but the list text and the saved states. A present word is a text of letters and digits. */
    private record State(List<Entry> list, List<String> text, int clock, int ageing, boolean completing,
            boolean tapping, int pending, String present, int chosen, int opened) {
    }

    private static final Comparator<Entry> RANKING = Comparator.comparingInt(Entry::count).reversed()
        .thenComparing(Comparator.comparingInt(Entry::time).reversed()).thenComparing(Entry::word);

    private String listText = "";
    private final List<State> saved = new ArrayList<>();
    private List<Entry> list = new ArrayList<>();
    private List<String> text = new ArrayList<>();
    private int clock = 0;
    private int ageing = 10;
    private boolean completing = false;
    private boolean tapping = false;
    private int pending = -1;
    private String present = "";
    private int chosen = 0;
    private int opened = -1;

    int append(int value) {
        require(value >= 0 && value <= 127, new IllegalArgumentException());
        require(listText.length() < 150, new IllegalStateException());
        listText += (char) value;
        return listText.length();
    }

    int clearText() {
        int length = listText.length();
        listText = "";
        return length;
    }

    int load() {
        List<Entry> read = new ArrayList<>();
        int error = errorOf(listText, read);
        if (error >= 0) {
            return -10 - error;
        }
        save();
        list = read;
        chosen = 0;
        return list.size();
    }

    /** A machine of one step a byte: it looks at what the unfinished item is so far. */
    private static int errorOf(String listText, List<Entry> read) {
        String item = "";
        for (int i = 0; i < listText.length(); i++) {
            char c = listText.charAt(i);
            String more = item + c;
            if (more.matches("[a-z]{1,10}") && read.size() < 50 || more.matches("[a-z]{1,10},[0-9]{1,3}")) {
                item = more;
            } else if (more.matches("[a-z]{1,10},")) {
                if (read.stream().anyMatch(e -> more.equals(e.word() + ","))) {
                    return i - more.length() + 1;
                }
                item = more;
            } else if (more.matches("[a-z]{1,10},[0-9]{1,3};")) {
                String[] parts = item.split(",");
                read.add(new Entry(parts[0], Integer.parseInt(parts[1]), 0, false));
                item = "";
            } else {
                return i;
            }
        }
        return item.isEmpty() ? -1 : listText.length();
    }

    int setWays(boolean completes, int age) {
        require(age >= 1 && age <= 50, new IllegalArgumentException());
        save();
        int before = ageing;
        completing = completes;
        ageing = age;
        chosen = 0;
        return before;
    }

    int word(int word, int what) {
        Entry entry = entry(word);
        require(what >= 0 && what <= 4, new IllegalArgumentException());
        return new int[] {entry.word().length(), entry.count(), entry.time(), entry.added() ? 1 : 0,
            ranked(list).indexOf(entry)}[what];
    }

    int letter(int word, int index) {
        return letterOf(entry(word).word(), index);
    }

    int press(int key) {
        require(key >= 2 && key <= 9, new IllegalArgumentException());
        require(key == pending || present.length() < 10, new IllegalStateException());
        save();
        String letters = KEYS[key];
        if (key == pending) {
            int place = letters.indexOf(present.charAt(present.length() - 1));
            present = present.substring(0, present.length() - 1) + letters.charAt((place + 1) % letters.length());
        } else if (tapping) {
            present += letters.charAt(0);
            pending = key;
        } else {
            present += key;
        }
        chosen = 0;
        return present.length();
    }

    int pause() {
        save();
        int before = pending;
        pending = -1;
        return before;
    }

    int mode(boolean taps) {
        save();
        if (taps) {
            present = shown().substring(0, present.length());
        }
        tapping = taps;
        pending = -1;
        chosen = 0;
        return present.length();
    }

    int next() {
        int count = candidates().size();
        require(count > 0, new IllegalStateException());
        save();
        chosen = (chosen + 1) % count;
        return chosen;
    }

    int erase() {
        require(!present.isEmpty(), new IllegalStateException());
        save();
        present = present.substring(0, present.length() - 1);
        pending = -1;
        chosen = 0;
        if (present.isEmpty() && opened >= 0) {
            text.remove(opened);
            opened = -1;
        }
        return present.length();
    }

    int accept() {
        require(!present.isEmpty() && (opened >= 0 || text.size() < 30), new IllegalStateException());
        save();
        String word = shown();
        clock++;
        Entry known = list.stream().filter(e -> e.word().equals(word)).findFirst().orElse(null);
        if (known != null) {
            list.set(list.indexOf(known),
                new Entry(word, Math.min(999, known.count() + 1), clock, known.added()));
        } else {
            if (list.size() == 50) {
                List<Entry> added = ranked(list.stream().filter(Entry::added).toList());
                list.remove(added.get(added.size() - 1));
            }
            list.add(new Entry(word, 1, clock, true));
        }
        if (clock % ageing == 0) {
            list.replaceAll(e -> e.added() && !e.word().equals(word)
                ? new Entry(e.word(), e.count() - 1, e.time(), true) : e);
            list.removeIf(e -> e.added() && e.count() == 0);
        }
        if (opened >= 0) {
            text.set(opened, word);
        } else {
            text.add(word);
        }
        present = "";
        pending = -1;
        chosen = 0;
        opened = -1;
        return text.size();
    }

    int open(int index) {
        require(index >= 0 && index < text.size(), new IndexOutOfBoundsException());
        require(present.isEmpty() && opened < 0, new IllegalStateException());
        save();
        present = text.get(index);
        opened = index;
        chosen = 0;
        return present.length();
    }

    int setting(int what) {
        require(what >= 0 && what <= 10, new IllegalArgumentException());
        int count = candidates().size();
        return new int[] {list.size(), clock, ageing, completing ? 1 : 0, tapping ? 1 : 0, pending,
            present.length(), count, count == 0 ? -1 : chosen, text.size(), opened}[what];
    }

    int place(int index) {
        require(index >= 0 && index < present.length(), new IndexOutOfBoundsException());
        char place = present.charAt(index);
        return Character.isDigit(place) ? place - '0' : 100 + place - 'a';
    }

    int display(int index) {
        require(index >= 0, new IllegalArgumentException());
        return index < shown().length() ? shown().charAt(index) - 'a' : -1;
    }

    int candidate(int index) {
        List<Entry> all = candidates();
        require(index >= 0 && index < all.size(), new IndexOutOfBoundsException());
        return list.indexOf(all.get(index));
    }

    int written(int index, int letter) {
        require(index >= 0 && index < text.size(), new IndexOutOfBoundsException());
        return letter == -1 ? text.get(index).length() : letterOf(text.get(index), letter);
    }

    int steps(int word) {
        Entry entry = entry(word);
        return ranked(list.stream().filter(e -> keys(e.word()).equals(keys(entry.word()))).toList()).indexOf(entry);
    }

    int presses(int word, boolean taps) {
        String letters = entry(word).word();
        if (!taps) {
            return letters.length() + steps(word);
        }
        int sum = 0;
        for (int i = 0; i < letters.length(); i++) {
            sum += KEYS[keyOf(letters.charAt(i))].indexOf(letters.charAt(i)) + 1;
            sum += i > 0 && keyOf(letters.charAt(i)) == keyOf(letters.charAt(i - 1)) ? 1 : 0;
        }
        return sum;
    }

    int clashing() {
        return (int) list.stream().filter(
            e -> list.stream().anyMatch(o -> o != e && keys(o.word()).equals(keys(e.word())))).count();
    }

    double saving() {
        long saves = 0;
        long all = 0;
        for (int i = 0; i < list.size(); i++) {
            saves += (long) list.get(i).count() * (presses(i, true) - presses(i, false));
            all += (long) list.get(i).count() * presses(i, true);
        }
        return all == 0 ? 0.0 : (double) saves / (double) all;
    }

    int shortest(int word) {
        Entry entry = entry(word);
        for (int length = 1; length <= entry.word().length(); length++) {
            List<Entry> all = candidatesFor(keys(entry.word()).substring(0, length), true);
            if (all.get(0) == entry) {
                return length;
            }
        }
        return -1;
    }

    int undo() {
        require(!saved.isEmpty(), new IllegalStateException());
        State state = saved.remove(saved.size() - 1);
        list = new ArrayList<>(state.list());
        text = new ArrayList<>(state.text());
        clock = state.clock();
        ageing = state.ageing();
        completing = state.completing();
        tapping = state.tapping();
        pending = state.pending();
        present = state.present();
        chosen = state.chosen();
        opened = state.opened();
        return saved.size();
    }

    long digest() {
        List<Integer> values = new ArrayList<>();
        values.add(listText.length());
        for (int what = 0; what <= 10; what++) {
            values.add(setting(what));
        }
        for (int word = 0; word < list.size(); word++) {
            for (int what = 0; what <= 4; what++) {
                values.add(word(word, what));
            }
            list.get(word).word().chars().forEach(c -> values.add(c - 'a'));
            values.add(steps(word));
        }
        for (int index = 0; index < present.length(); index++) {
            values.add(place(index));
        }
        shown().chars().forEach(c -> values.add(c - 'a'));
        for (String word : text) {
            values.add(word.length());
            word.chars().forEach(c -> values.add(c - 'a'));
        }
        values.add(saved.size());
        long hash = 3271;
        for (int value : values) {
            hash = 31 * hash + value;
        }
        return hash;
    }

    private void save() {
        saved.add(new State(new ArrayList<>(list), new ArrayList<>(text), clock, ageing, completing, tapping, pending,
            present, chosen, opened));
        if (saved.size() > 4) {
            saved.remove(0);
        }
    }

    private Entry entry(int word) {
        require(word >= 0 && word < list.size(), new IndexOutOfBoundsException());
        return list.get(word);
    }

    private static int letterOf(String word, int index) {
        require(index >= 0 && index < word.length(), new IndexOutOfBoundsException());
        return word.charAt(index) - 'a';
    }

    private String shown() {
        List<Entry> all = candidates();
        if (!tapping && !all.isEmpty()) {
            return all.get(chosen).word();
        }
        StringBuilder letters = new StringBuilder();
        for (char place : present.toCharArray()) {
            letters.append(Character.isDigit(place) ? KEYS[place - '0'].charAt(0) : place);
        }
        return letters.toString();
    }

    private List<Entry> candidates() {
        return candidatesFor(present, completing);
    }

    private List<Entry> candidatesFor(String places, boolean longer) {
        List<Entry> all = new ArrayList<>();
        if (!places.isEmpty()) {
            StringBuilder pattern = new StringBuilder();
            for (char place : places.toCharArray()) {
                pattern.append(Character.isDigit(place) ? "[" + KEYS[place - '0'] + "]" : String.valueOf(place));
            }
            all.addAll(ranked(list.stream().filter(e -> e.word().matches(pattern.toString())).toList()));
            if (longer) {
                all.addAll(ranked(list.stream().filter(e -> e.word().matches(pattern + ".+")).toList()));
            }
        }
        return all;
    }

    private static List<Entry> ranked(List<Entry> entries) {
        return entries.stream().sorted(RANKING).toList();
    }

    private static String keys(String word) {
        StringBuilder keys = new StringBuilder();
        for (char letter : word.toCharArray()) {
            keys.append(keyOf(letter));
        }
        return keys.toString();
    }

    private static int keyOf(char letter) {
        for (int key = 2; key <= 9; key++) {
            if (KEYS[key].indexOf(letter) >= 0) {
                return key;
            }
        }
        throw new AssertionError(letter);
    }

    private static void require(boolean right, RuntimeException otherwise) {
        if (!right) {
            throw otherwise;
        }
    }
}
