import java.util.ArrayDeque;
import java.util.ArrayList;
import java.util.Comparator;
import java.util.HashMap;
import java.util.List;
import java.util.Map;
import java.util.TreeSet;
import java.util.regex.Matcher;
import java.util.regex.Pattern;

/** The document's words taken one by one, over strings, with no machine and no thrift. */
final class Model {

    private static final Pattern PATTERNS = Pattern.compile("[a-d]{1,8}(;[a-d]{1,8})*");
    private static final Pattern LETTERS = Pattern.compile("([a-d][2-9]?)+");

    private String[] patterns = new String[8];
    private int[] counted = new int[8];
    private int[] latest = {-1, -1, -1, -1, -1, -1, -1, -1};
    private int rule;
    private String text = "";
    private int total;
    private int last = -1;
    private int falls;
    private int most;
    private String buffer = "";
    private final List<Model> saved = new ArrayList<>();

    private void save() {
        Model copy = new Model();
        copy.take(this);
        saved.add(copy);
        if (saved.size() > 6) {
            saved.remove(0);
        }
    }

    private void take(Model other) {
        patterns = other.patterns.clone();
        counted = other.counted.clone();
        latest = other.latest.clone();
        rule = other.rule;
        text = other.text;
        total = other.total;
        last = other.last;
        falls = other.falls;
        most = other.most;
    }

    // ---- terms

    private static List<String> statesOf(String[] patterns) {
        TreeSet<String> rows = new TreeSet<>(
                Comparator.comparing(String::length).thenComparing(Comparator.naturalOrder()));
        rows.add("");
        for (String pattern : patterns) {
            for (int end = 1; pattern != null && end <= pattern.length(); end++) {
                rows.add(pattern.substring(0, end));
            }
        }
        return new ArrayList<>(rows);
    }

    private List<String> states() {
        return statesOf(patterns);
    }

    private String longestEnd(String row, int below) {
        String longest = "";
        for (String state : states()) {
            if (row.endsWith(state) && state.length() < below) {
                longest = state;
            }
        }
        return longest;
    }

    private String current() {
        return longestEnd(text, 9);
    }

    private String next(String state, char letter) {
        return longestEnd(state + letter, 9);
    }

    private int fallsOf(String state, char letter) {
        int falling = 0;
        String at = state;
        while (!states().contains(at + letter)) {
            falling++;
            if (at.isEmpty()) {
                return falling;
            }
            at = longestEnd(at, at.length());
        }
        return falling;
    }

    /** The slots whose matches count at the end of a text, behind a match that counted last. */
    private List<Integer> counting(String upTo, int lastPlace) {
        List<Integer> slots = new ArrayList<>();
        for (int slot = 0; slot < 8; slot++) {
            if (patterns[slot] != null && upTo.endsWith(patterns[slot])) {
                slots.add(slot);
            }
        }
        if (rule == 2) {
            slots.removeIf(slot -> upTo.length() - patterns[slot].length() <= lastPlace);
        }
        if (rule != 0 && slots.size() > 1) {
            slots.sort(Comparator.comparing(slot -> -patterns[slot].length()));
            return slots.subList(0, 1);
        }
        return slots;
    }

    private static void slotFirst(int slot) {
        if (slot < 0 || slot > 7) {
            throw new IndexOutOfBoundsException();
        }
    }

    private static void range(int number, int low, int high) {
        if (number < low || number > high) {
            throw new IllegalArgumentException();
        }
    }

    // ---- patterns

    int add() {
        if (!PATTERNS.matcher(buffer).matches()) {
            throw new IllegalArgumentException();
        }
        String[] then = patterns.clone();
        int added = 0;
        for (String part : buffer.split(";")) {
            List<String> there = java.util.Arrays.asList(then);
            if (!there.contains(part)) {
                int slot = there.indexOf(null);
                if (slot < 0) {
                    throw new IllegalStateException();
                }
                then[slot] = part;
                added++;
            }
        }
        save();
        patterns = then;
        buffer = "";
        return added;
    }

    int remove(int slot) {
        slotFirst(slot);
        if (patterns[slot] == null) {
            throw new IllegalStateException();
        }
        save();
        int had = counted[slot];
        patterns[slot] = null;
        counted[slot] = 0;
        latest[slot] = -1;
        return had;
    }

    int rule(int to) {
        range(to, 0, 2);
        save();
        int previous = rule;
        rule = to;
        return previous;
    }

    // ---- reading

    private int read(char letter) {
        int falling = fallsOf(current(), letter);
        falls += falling;
        most = Math.max(most, falling);
        text += letter;
        int place = text.length() - 1;
        List<Integer> slots = counting(text, last);
        for (int slot : slots) {
            counted[slot]++;
            latest[slot] = place;
            total++;
            last = place;
        }
        return slots.size();
    }

    int feed(int letter) {
        range(letter, 0, 3);
        if (text.length() >= 9999) {
            throw new IllegalStateException();
        }
        save();
        return read((char) ('a' + letter));
    }

    int feedAll() {
        if (!LETTERS.matcher(buffer).matches()) {
            throw new IllegalArgumentException();
        }
        StringBuilder letters = new StringBuilder();
        Matcher part = Pattern.compile("([a-d])([2-9]?)").matcher(buffer);
        while (part.find()) {
            int times = part.group(2).isEmpty() ? 1 : Integer.parseInt(part.group(2));
            letters.append(part.group(1).repeat(times));
        }
        if (text.length() + letters.length() > 9999) {
            throw new IllegalStateException();
        }
        save();
        int counts = 0;
        for (char letter : letters.toString().toCharArray()) {
            counts += read(letter);
        }
        buffer = "";
        return counts;
    }

    int begin() {
        save();
        int were = text.length();
        text = "";
        counted = new int[8];
        java.util.Arrays.fill(latest, -1);
        total = 0;
        last = -1;
        falls = 0;
        most = 0;
        return were;
    }

    // ---- texts

    int append(int code) {
        range(code, 33, 126);
        if (buffer.length() == 60) {
            throw new IllegalStateException();
        }
        buffer += (char) code;
        return buffer.length();
    }

    int clearBuffer() {
        int had = buffer.length();
        buffer = "";
        return had;
    }

    int firstError(boolean arePatterns) {
        for (int end = 1; end <= buffer.length(); end++) {
            Matcher matcher = (arePatterns ? PATTERNS : LETTERS).matcher(buffer.substring(0, end));
            if (!matcher.matches() && !matcher.hitEnd()) {
                return end - 1;
            }
        }
        return buffer.length();
    }

    int undo() {
        if (saved.isEmpty()) {
            throw new IllegalStateException();
        }
        take(saved.remove(saved.size() - 1));
        return saved.size();
    }

    // ---- looks

    int pattern(int slot, int what) {
        slotFirst(slot);
        range(what, 0, 5);
        String pattern = patterns[slot];
        int inside = 0;
        int around = 0;
        for (int other = 0; other < 8; other++) {
            if (other != slot && pattern != null && patterns[other] != null) {
                inside += pattern.contains(patterns[other]) ? 1 : 0;
                around += patterns[other].contains(pattern) ? 1 : 0;
            }
        }
        int[] told = {pattern == null ? 0 : pattern.length(), counted[slot], latest[slot],
            pattern == null ? -1 : states().indexOf(pattern), inside, around};
        return told[what];
    }

    int letter(int slot, int place) {
        slotFirst(slot);
        range(place, 0, 7);
        String pattern = patterns[slot];
        return pattern == null || place >= pattern.length() ? -1 : pattern.charAt(place) - 'a';
    }

    int state(int number, int what) {
        List<String> states = states();
        if (number < 0 || number >= states.size()) {
            throw new IndexOutOfBoundsException();
        }
        range(what, 0, 8);
        String row = states.get(number);
        if (what >= 5) {
            return states.indexOf(next(row, (char) ('a' + what - 5)));
        }
        int mask = 0;
        int beginning = 0;
        for (int slot = 0; slot < 8; slot++) {
            if (patterns[slot] != null) {
                mask += row.endsWith(patterns[slot]) ? 1 << slot : 0;
                beginning += patterns[slot].startsWith(row) ? 1 : 0;
            }
        }
        boolean empty = row.isEmpty();
        int[] told = {row.length(), empty ? -1 : row.charAt(row.length() - 1) - 'a',
            empty ? -1 : states.indexOf(longestEnd(row, row.length())), mask, beginning};
        return told[what];
    }

    private int sum() {
        int sum = 0;
        for (String pattern : patterns) {
            sum += pattern == null ? 0 : pattern.length();
        }
        return sum;
    }

    int count(int what) {
        range(what, 0, 9);
        int there = 0;
        for (String pattern : patterns) {
            there += pattern == null ? 0 : 1;
        }
        int[] told = {there, states().size(), states().indexOf(current()), text.length(), total,
            last, falls, most, sum(), saved.size()};
        return told[what];
    }

    int setting() {
        return rule;
    }

    // ---- what would be

    int ifFed(int letter, int what) {
        range(letter, 0, 3);
        range(what, 0, 3);
        char read = (char) ('a' + letter);
        List<Integer> slots = counting(text + read, last);
        int lowest = -1;
        for (int slot : slots) {
            lowest = lowest < 0 ? slot : Math.min(lowest, slot);
        }
        int[] told = {states().indexOf(next(current(), read)), fallsOf(current(), read),
            slots.size(), lowest};
        return told[what];
    }

    /** A search in breadth over the states, from the state. */
    int lettersTo(int slot) {
        slotFirst(slot);
        if (patterns[slot] == null) {
            return -1;
        }
        Map<String, Integer> far = new HashMap<>();
        ArrayDeque<String> open = new ArrayDeque<>();
        open.add(current());
        int reached = -1;
        while (reached < 0) {
            String from = open.remove();
            for (char letter = 'a'; letter <= 'd' && reached < 0; letter++) {
                String to = next(from, letter);
                int steps = far.getOrDefault(from, 0) + 1;
                if (to.endsWith(patterns[slot])) {
                    reached = steps;
                } else if (!far.containsKey(to) && !to.equals(current())) {
                    far.put(to, steps);
                    open.add(to);
                }
            }
        }
        return reached;
    }

    int ifRepeated(int letter, int times) {
        range(letter, 0, 3);
        range(times, 1, 200);
        Model would = new Model();
        would.take(this);
        int counts = 0;
        for (int time = 0; time < times; time++) {
            counts += would.read((char) ('a' + letter));
        }
        return counts;
    }

    int heaviest() {
        int told = -1;
        for (int slot = 7; slot >= 0; slot--) {
            if (patterns[slot] != null) {
                String[] without = patterns.clone();
                without[slot] = null;
                int fewer = states().size() - statesOf(without).size();
                told = told < 0 || fewer >= told / 100 ? 100 * fewer + slot : told;
            }
        }
        return told;
    }

    double sharing() {
        return sum() == 0 ? 1.0 : (double) (states().size() - 1) / sum();
    }

    long digest() {
        List<Long> values = new ArrayList<>();
        for (int what = 0; what <= 9; what++) {
            values.add((long) count(what));
        }
        values.add((long) setting());
        for (int slot = 0; slot < 8; slot++) {
            for (int what = 0; what <= 5; what++) {
                values.add((long) pattern(slot, what));
            }
            for (int place = 0; place < pattern(slot, 0); place++) {
                values.add((long) letter(slot, place));
            }
            values.add((long) lettersTo(slot));
        }
        int states = states().size();
        for (int state = 0; state < states; state++) {
            for (int what = 0; what <= 8; what++) {
                values.add((long) state(state, what));
            }
        }
        for (int letter = 0; letter < 4; letter++) {
            for (int what = 0; what <= 3; what++) {
                values.add((long) ifFed(letter, what));
            }
        }
        for (int letter = 0; letter < 4; letter++) {
            values.add((long) ifRepeated(letter, 9));
        }
        values.add((long) heaviest());
        values.add(Double.doubleToLongBits(sharing()));
        values.add((long) buffer.length());
        for (char code : buffer.toCharArray()) {
            values.add((long) code);
        }
        long hash = 2767;
        for (long value : values) {
            hash = 31 * hash + value;
        }
        return hash;
    }
}
