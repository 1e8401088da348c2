/** For each promise of the document, in its order: ordinary inputs, edges, wrong inputs. */
public final class PromiseTests {

    private static final Class<IllegalArgumentException> ARGUMENT = IllegalArgumentException.class;
    private static final Class<IllegalStateException> STATE = IllegalStateException.class;
    private static final Class<IndexOutOfBoundsException> INDEX = IndexOutOfBoundsException.class;
    private static final int MIN = Integer.MIN_VALUE;
    private static final int MAX = Integer.MAX_VALUE;

    private final Checks checks = new Checks();

    public static void main(String[] args) {
        PromiseTests tests = new PromiseTests();
        tests.aNewObject();
        tests.add();
        tests.addRefused();
        tests.remove();
        tests.rule();
        tests.ruleTwo();
        tests.feed();
        tests.feedAll();
        tests.mostLetters();
        tests.begin();
        tests.append();
        tests.clearBuffer();
        tests.firstError();
        tests.undo();
        tests.undoOfEachMethod();
        tests.throwsChangeNothing();
        tests.pattern();
        tests.letter();
        tests.state();
        tests.count();
        tests.falls();
        tests.ifFed();
        tests.lettersTo();
        tests.ifRepeated();
        tests.heaviest();
        tests.sharing();
        tests.digest();
        tests.checks.end("PromiseTests");
    }

    // ---- shorthands

    private static FallingPatterns type(FallingPatterns x, String text) {
        for (int index = 0; index < text.length(); index++) {
            x.append(text.charAt(index));
        }
        return x;
    }

    private static FallingPatterns with(String patterns) {
        FallingPatterns x = type(new FallingPatterns(), patterns);
        x.add();
        return x;
    }

    private static int add(FallingPatterns x, String patterns) {
        return type(x, patterns).add();
    }

    private static int read(FallingPatterns x, String letters) {
        return type(x, letters).feedAll();
    }

    private static String word(FallingPatterns x, int slot) {
        StringBuilder word = new StringBuilder();
        for (int place = 0; place < 8; place++) {
            int letter = x.letter(slot, place);
            word.append(letter == FallingPatterns.NONE ? "" : (char) ('a' + letter));
        }
        return word.toString();
    }

    private static String words(FallingPatterns x) {
        StringBuilder words = new StringBuilder();
        for (int slot = 0; slot < 8; slot++) {
            words.append(slot == 0 ? "" : ",").append(word(x, slot));
        }
        return words.toString();
    }

    private static String counts(FallingPatterns x) {
        StringBuilder counts = new StringBuilder();
        for (int what = 0; what <= 9; what++) {
            counts.append(what == 0 ? "" : " ").append(x.count(what));
        }
        return counts.toString();
    }

    private static String states(FallingPatterns x, int what) {
        StringBuilder told = new StringBuilder();
        for (int state = 0; state < x.count(1); state++) {
            told.append(state == 0 ? "" : " ").append(x.state(state, what));
        }
        return told.toString();
    }

    // ---- 1

    private void aNewObject() {
        FallingPatterns x = new FallingPatterns();
        checks.due("NONE", FallingPatterns.NONE, -1);
        checks.due("new: counts", counts(x), "0 1 0 0 0 -1 0 0 0 0");
        checks.due("new: words", words(x), ",,,,,,,");
        checks.due("new: rule", x.setting(), 0);
        checks.due("new: buffer", x.clearBuffer(), 0);
        checks.dueThrow("new: undo", STATE, x::undo);
        for (int slot = 0; slot < 8; slot++) {
            checks.due("new: latest of " + slot, x.pattern(slot, 2), -1);
        }
        FallingPatterns y = with("ab");
        checks.due("objects are apart", x.count(0), 0);
        checks.due("objects are apart", y.count(0), 1);
    }

    // ---- 2

    private void add() {
        FallingPatterns x = new FallingPatterns();
        checks.due("add", add(x, "ab;c;ab;abc"), 3);
        checks.due("add: words", words(x), "ab,c,abc,,,,,");
        checks.due("add: clears", x.clearBuffer(), 0);
        checks.due("add: known ones", add(x, "c;ab"), 0);
        checks.due("add: saves though nothing is new", x.count(9), 2);
        checks.due("add: clears though nothing is new", x.clearBuffer(), 0);
        x.remove(1);
        x.remove(0);
        checks.due("add: lowest slots", add(x, "d;abc;aa;b"), 3);
        checks.due("add: lowest slots", words(x), "d,aa,abc,b,,,,");
        checks.due("add: longest", add(x, "abcdabcd;dddddddd"), 2);
        checks.due("add: longest", word(x, 5), "dddddddd");
        FallingPatterns y = new FallingPatterns();
        read(y, "dabca");
        add(y, "bcab;ca;abcd");
        checks.due("add: the state by the letters before", y.count(2), 8);
        checks.due("add: no match of letters before", y.count(4), 0);
        checks.due("add: is part of the match", y.feed(1), 1);
        FallingPatterns z = new FallingPatterns();
        read(z, "abcdabcda");
        add(z, "bcdabcda;abcdabcd");
        checks.due("add: the state by 8 letters", z.state(z.count(2), 0), 8);
        checks.due("add: the state by 8 letters", z.count(2), z.pattern(0, 3));
        z.begin();
        add(z, "aa");
        checks.due("add: not by a text before", z.count(2), 0);
    }

    private void addRefused() {
        String[] wrong = {"", ";", "a;", ";a", "a;;b", "abcdabcda", "e", "aB", "a2", "a,b", "ab;"};
        for (String text : wrong) {
            FallingPatterns x = with("ab;cd");
            type(x, text);
            checks.dueThrow("add of " + text, ARGUMENT, x::add);
            checks.due("add of " + text + " changes nothing", counts(x), "2 5 0 0 0 -1 0 0 4 1");
            checks.due("add of " + text + " keeps the buffer", x.clearBuffer(), text.length());
        }
        FallingPatterns x = with("a;b;c;d;aa;ab");
        type(x, "ac;a;ad;ba");
        checks.dueThrow("add of a ninth", STATE, x::add);
        checks.due("add of a ninth: none", words(x), "a,b,c,d,aa,ab,,");
        checks.due("add of a ninth: buffer", x.clearBuffer(), 10);
        checks.due("add of a ninth: saved", x.count(9), 1);
        checks.due("add up to 8", add(x, "ac;a;ad;ac"), 2);
        checks.due("add of known ones to 8", add(x, "ad;ac;a"), 0);
        type(x, "ba");
        checks.dueThrow("add to 8", STATE, x::add);
        type(x, ";");
        checks.dueThrow("add: the syntax is first", ARGUMENT, x::add);
    }

    // ---- 3

    private void remove() {
        FallingPatterns x = with("ab;b;abab");
        read(x, "abab");
        checks.due("remove", x.remove(1), 2);
        checks.due("remove: words", words(x), "ab,,abab,,,,,");
        checks.due("remove: forgets its count", x.pattern(1, 1), 0);
        checks.due("remove: forgets its place", x.pattern(1, 2), -1);
        checks.due("remove: others keep theirs", x.pattern(0, 1), 2);
        checks.due("remove: counted in all stays", x.count(4), 5);
        checks.due("remove: counted last stays", x.count(5), 3);
        checks.due("remove: the state", x.state(x.count(2), 0), 4);
        checks.due("remove", x.remove(2), 1);
        checks.due("remove: the state falls", x.state(x.count(2), 0), 2);
        add(x, "d");
        checks.due("remove: a new one has no count", x.pattern(1, 1), 0);
        checks.due("remove: not counted", x.remove(1), 0);
        long before = x.digest();
        checks.dueThrow("remove of an empty slot", STATE, () -> x.remove(1));
        for (int slot : new int[] {-1, 8, MIN, MAX}) {
            checks.dueThrow("remove of " + slot, INDEX, () -> x.remove(slot));
        }
        checks.due("remove: refused", x.digest(), before);
    }

    // ---- 4

    private void rule() {
        FallingPatterns x = with("a;aa;aaa");
        checks.due("rule", x.rule(1), 0);
        checks.due("rule", x.setting(), 1);
        checks.due("rule", x.rule(2), 1);
        checks.due("rule", x.rule(2), 2);
        checks.due("rule: saves though it is the same", x.count(9), 4);
        checks.due("rule", x.rule(0), 2);
        for (int rule : new int[] {-1, 3, MIN, MAX}) {
            checks.dueThrow("rule " + rule, ARGUMENT, () -> x.rule(rule));
        }
        checks.due("rule: refused", x.setting(), 0);
        checks.due("rule: refused", x.count(9), 5);
        checks.due("rule 0", read(x, "a4"), 9);
        x.begin();
        x.rule(1);
        checks.due("rule 1", read(x, "a4"), 4);
        checks.due("rule 1: the longest", x.pattern(2, 1), 2);
        checks.due("rule 1: the longest", x.pattern(1, 1), 1);
        checks.due("rule 1: the longest", x.pattern(0, 1), 1);
    }

    private void ruleTwo() {
        FallingPatterns x = with("aa;aab;b");
        x.rule(2);
        checks.due("rule 2", read(x, "a5"), 2);
        checks.due("rule 2: places", x.pattern(0, 2), 3);
        checks.due("rule 2: the longest that does not overlap", x.feed(1), 1);
        checks.due("rule 2: the longest that does not overlap", x.pattern(1, 1), 0);
        checks.due("rule 2: the longest that does not overlap", x.pattern(2, 2), 5);
        FallingPatterns y = with("ab;b;ba");
        read(y, "ab");
        y.rule(2);
        y.remove(0);
        y.remove(1);
        checks.due("rule 2: by whatever rule, also if removed", y.feed(0), 0);
        checks.due("rule 2: begins behind it", read(y, "ba"), 1);
        checks.due("rule 2: places", y.count(5), 4);
        FallingPatterns z = with("a");
        z.rule(2);
        checks.due("rule 2: the first letter", z.feed(0), 1);
        checks.due("rule 2: one behind the other", z.feed(0), 1);
    }

    // ---- 5

    private void feed() {
        FallingPatterns x = with("ab;b;cab;c");
        checks.due("feed", x.feed(2), 1);
        checks.due("feed", x.feed(0), 0);
        checks.due("feed", x.feed(1), 3);
        checks.due("feed: places", x.pattern(2, 2), 2);
        checks.due("feed", x.feed(3), 0);
        checks.due("feed: counts", counts(x), "4 7 0 4 4 2 4 4 7 5");
        long before = x.digest();
        for (int letter : new int[] {-1, 4, MIN, MAX, 97}) {
            checks.dueThrow("feed " + letter, ARGUMENT, () -> x.feed(letter));
        }
        checks.due("feed: refused", x.digest(), before);
        FallingPatterns y = new FallingPatterns();
        checks.due("feed without patterns", y.feed(3), 0);
        checks.due("feed without patterns", counts(y), "0 1 0 1 0 -1 1 1 0 1");
    }

    // ---- 6

    private void feedAll() {
        FallingPatterns x = with("ab;aab");
        checks.due("feedAll", read(x, "a2bab"), 3);
        checks.due("feedAll: clears", x.clearBuffer(), 0);
        checks.due("feedAll: read", x.count(3), 5);
        checks.due("feedAll: saved as one call", x.count(9), 2);
        x.undo();
        checks.due("feedAll: undone as one call", x.count(3), 0);
        checks.due("feedAll: numbers", read(x, "d9c2b8"), 0);
        checks.due("feedAll: numbers", x.count(3), 19);
        String[] wrong = {"", "2", "a1", "a0", "a22", "ab;c", "e", "a2e", "A"};
        for (String text : wrong) {
            type(x, text);
            checks.dueThrow("feedAll of " + text, ARGUMENT, x::feedAll);
            checks.due("feedAll of " + text + ": refused", x.count(3), 19);
            checks.due("feedAll of " + text + ": refused", x.count(9), 2);
            checks.due("feedAll of " + text + ": refused", x.clearBuffer(), text.length());
        }
    }

    /** Goes beyond the 512 calls of an object, as no text of 9999 letters is read within them. */
    private void mostLetters() {
        FallingPatterns x = with("a;aa");
        for (int part = 0; part < 37; part++) {
            read(x, "a9".repeat(30));
        }
        checks.due("most letters", read(x, "a8"), 16);
        checks.due("most letters", x.count(3), 9998);
        type(x, "a2");
        checks.dueThrow("feedAll of too many", STATE, x::feedAll);
        type(x, "2");
        checks.dueThrow("feedAll: the syntax is first", ARGUMENT, x::feedAll);
        checks.due("feedAll of too many: refused", x.clearBuffer(), 3);
        checks.due("feedAll up to 9999", read(x, "a"), 2);
        checks.dueThrow("feed of too many", STATE, () -> x.feed(0));
        checks.dueThrow("feed: the letter is first", ARGUMENT, () -> x.feed(4));
        checks.due("most letters", x.count(4), 9999 + 9998);
        checks.due("most letters", x.count(5), 9998);
        checks.due("what would be behind them", x.ifFed(0, 2), 2);
        checks.due("begin behind them", x.begin(), 9999);
        checks.due("feed behind begin", x.feed(0), 1);
    }

    // ---- 7

    private void begin() {
        FallingPatterns x = with("ab;b");
        read(x, "abdab");
        x.rule(2);
        checks.due("begin", x.begin(), 5);
        checks.due("begin: counts", counts(x), "2 4 0 0 0 -1 0 0 3 4");
        checks.due("begin: counted", x.pattern(0, 1), 0);
        checks.due("begin: latest", x.pattern(1, 2), -1);
        checks.due("begin: the rule stays", x.setting(), 2);
        checks.due("begin: anew", read(x, "ab"), 1);
        checks.due("begin: anew", x.count(5), 1);
        x.begin();
        checks.due("begin of nothing", x.begin(), 0);
        checks.due("begin: saves", x.count(9), 6);
    }

    // ---- 8

    private void append() {
        FallingPatterns x = new FallingPatterns();
        for (int length = 1; length <= 60; length++) {
            checks.due("append", x.append(length == 1 ? 33 : 126), length);
        }
        for (int code : new int[] {32, 127, 0, -1, 353, MIN, MAX}) {
            checks.dueThrow("append " + code, ARGUMENT, () -> x.append(code));
        }
        checks.dueThrow("append to 60", STATE, () -> x.append(97));
        checks.due("append: refused", x.clearBuffer(), 60);
        checks.due("append: saves nothing", x.count(9), 0);
        checks.dueThrow("append 32 to none", ARGUMENT, () -> x.append(32));
        checks.due("append again", x.append(97), 1);
    }

    // ---- 9

    private void clearBuffer() {
        FallingPatterns x = type(new FallingPatterns(), "ab;!");
        checks.due("clearBuffer", x.clearBuffer(), 4);
        checks.due("clearBuffer", x.clearBuffer(), 0);
        checks.due("clearBuffer: saves nothing", x.count(9), 0);
        checks.due("clearBuffer: all is gone", add(x, "cd"), 1);
        checks.due("clearBuffer: all is gone", word(x, 0), "cd");
    }

    // ---- 10

    private void error(String text, int inPatterns, int inLetters) {
        FallingPatterns x = type(new FallingPatterns(), text);
        checks.due("firstError of " + text, x.firstError(true), inPatterns);
        checks.due("firstError of letters " + text, x.firstError(false), inLetters);
        checks.due("firstError: changes nothing", x.clearBuffer(), text.length());
    }

    private void firstError() {
        error("", 0, 0);
        error("abcd", 4, 4);
        error("a;bc;", 5, 1);
        error("a;;b", 2, 1);
        error(";", 0, 0);
        error("abcdabcd;abcdabcd", 17, 8);
        error("abcdabcda", 8, 9);
        error("ab;abcdabcda", 11, 2);
        error("e", 0, 0);
        error("A", 0, 0);
        error("`", 0, 0);
        error("ab2c9d", 2, 6);
        error("a22", 1, 2);
        error("a1", 1, 1);
        error("a0", 1, 1);
        error("a:", 1, 1);
        error("9", 0, 0);
        error("a2;b", 1, 2);
        error("a;b;c!;;", 5, 1);
        error("abcdabcd;".repeat(6) + "abcdab", 60, 8);
        error("a9".repeat(30), 1, 60);
    }

    // ---- 11

    private void undo() {
        FallingPatterns x = new FallingPatterns();
        for (int time = 0; time < 8; time++) {
            x.feed(time % 4);
        }
        checks.due("undo: at most 6 are saved", x.count(9), 6);
        for (int left = 5; left >= 0; left--) {
            checks.due("undo", x.undo(), left);
            checks.due("undo: read", x.count(3), left + 2);
        }
        checks.dueThrow("undo of none", STATE, x::undo);
        checks.due("undo of none", x.count(3), 2);
        x.feed(0);
        type(x, "ab");
        checks.due("undo again", x.undo(), 0);
        checks.due("undo: not the buffer", x.clearBuffer(), 2);
        add(x, "ab");
        x.undo();
        checks.due("undo: a cleared buffer stays so", x.clearBuffer(), 0);
    }

    private void undone(String name, FallingPatterns x, Checks.Call call) {
        x.clearBuffer();
        long before = x.digest();
        String words = words(x);
        int saved = x.count(9);
        call.answer();
        checks.due(name + ": saved", x.count(9), saved + 1);
        checks.due(name + ": undo", x.undo(), saved);
        checks.due(name + ": is undone", x.digest(), before);
        checks.due(name + ": is undone", words(x), words);
    }

    private void undoOfEachMethod() {
        FallingPatterns x = with("ab;ba;bab");
        x.rule(2);
        read(x, "dabab2a");
        undone("add", x, () -> add(x, "abab;c"));
        undone("add of none", x, () -> add(x, "ab"));
        undone("remove", x, () -> x.remove(0));
        undone("rule", x, () -> x.rule(0));
        undone("feed", x, () -> x.feed(1));
        undone("feedAll", x, () -> read(x, "b9abc3a"));
        undone("begin", x, x::begin);
    }

    private void throwsChangeNothing() {
        FallingPatterns x = with("ab;ba;bab");
        read(x, "abab");
        type(x, "a;");
        long before = x.digest();
        Checks.Call[] refused = {x::add, () -> x.remove(3), () -> x.rule(3), () -> x.feed(4),
            x::feedAll, () -> x.append(32), () -> x.pattern(0, 6), () -> x.letter(0, 8),
            () -> x.state(0, 9), () -> x.count(10), () -> x.ifFed(0, 4), () -> x.lettersTo(8),
            () -> x.ifRepeated(0, 0)};
        for (Checks.Call call : refused) {
            checks.due("refused", Checks.outcome(call).startsWith("throws"), true);
            checks.due("refused changes nothing", x.digest(), before);
        }
    }

    // ---- 12

    private void pattern() {
        FallingPatterns x = with("ab;abcab;b;cabd");
        read(x, "abcab");
        int[][] due = {{2, 2, 4, 4, 1, 2}, {5, 1, 4, 10, 2, 0}, {1, 2, 4, 2, 0, 3},
            {4, 0, -1, 9, 2, 0}, {0, 0, -1, -1, 0, 0}};
        for (int slot = 0; slot < 5; slot++) {
            for (int what = 0; what <= 5; what++) {
                checks.due("pattern " + slot + " " + what, x.pattern(slot, what), due[slot][what]);
            }
        }
        for (int slot : new int[] {-1, 8, MIN, MAX}) {
            checks.dueThrow("pattern " + slot, INDEX, () -> x.pattern(slot, 0));
            checks.dueThrow("pattern: the slot is first", INDEX, () -> x.pattern(slot, 6));
        }
        for (int what : new int[] {-1, 6, MIN, MAX}) {
            checks.dueThrow("pattern what " + what, ARGUMENT, () -> x.pattern(0, what));
        }
    }

    // ---- 13

    private void letter() {
        FallingPatterns x = with("dcba;abcdabcd");
        checks.due("letter", word(x, 0), "dcba");
        checks.due("letter", x.letter(1, 7), 3);
        checks.due("letter behind the pattern", x.letter(0, 4), -1);
        checks.due("letter of none", x.letter(2, 0), -1);
        for (int slot : new int[] {-1, 8, MIN, MAX}) {
            checks.dueThrow("letter " + slot, INDEX, () -> x.letter(slot, 0));
            checks.dueThrow("letter: the slot is first", INDEX, () -> x.letter(slot, 8));
        }
        for (int place : new int[] {-1, 8, MIN, MAX}) {
            checks.dueThrow("letter at " + place, ARGUMENT, () -> x.letter(0, place));
        }
    }

    // ---- 14

    private void state() {
        FallingPatterns x = with("abab;b;bab");
        checks.due("state: length", states(x, 0), "0 1 1 2 2 3 3 4");
        checks.due("state: last letter", states(x, 1), "-1 0 1 1 0 0 1 1");
        checks.due("state: falls back", states(x, 2), "-1 0 0 2 1 4 3 6");
        checks.due("state: ends", states(x, 3), "0 0 2 2 0 0 6 7");
        checks.due("state: begin with it", states(x, 4), "3 1 2 1 1 1 1 1");
        checks.due("state: a", states(x, 5), "1 1 4 5 1 1 5 5");
        checks.due("state: b", states(x, 6), "2 3 2 2 6 7 2 2");
        checks.due("state: c", states(x, 7), "0 0 0 0 0 0 0 0");
        checks.due("state: d", states(x, 8), "0 0 0 0 0 0 0 0");
        for (int state : new int[] {-1, 8, MIN, MAX}) {
            checks.dueThrow("state " + state, INDEX, () -> x.state(state, 0));
            checks.dueThrow("state: the state is first", INDEX, () -> x.state(state, 9));
        }
        for (int what : new int[] {-1, 9, MIN, MAX}) {
            checks.dueThrow("state what " + what, ARGUMENT, () -> x.state(0, what));
        }
        FallingPatterns y = with("aabcdabc;bbcdabcd;cbcdabcd;dbcdabcd;abbcdabc");
        add(y, "acbcdabc;adbcdabc;babcdabc");
        checks.due("state: many", y.count(1), 1 + 4 + 8 + 6 * 8);
        checks.due("state: many", y.state(60, 0), 8);
        checks.dueThrow("state: many", INDEX, () -> y.state(61, 0));
    }

    // ---- 15

    private void count() {
        FallingPatterns x = with("abc;bc;d");
        read(x, "abcabdbb");
        checks.due("count", counts(x), "3 7 2 8 3 5 6 2 6 2");
        x.remove(2);
        checks.due("count behind remove", counts(x), "2 6 2 8 3 5 6 2 5 3");
        for (int what : new int[] {-1, 10, MIN, MAX}) {
            checks.dueThrow("count " + what, ARGUMENT, () -> x.count(what));
        }
    }

    private void falls() {
        FallingPatterns x = with("aaaaaaaa");
        read(x, "a8");
        checks.due("falls of none", x.count(6), 0);
        x.feed(0);
        checks.due("falls of one", x.count(6), 1);
        x.feed(1);
        checks.due("falls of all", x.count(6), 10);
        checks.due("most falls", x.count(7), 9);
        x.feed(1);
        checks.due("falls behind the empty row", x.count(6), 11);
        checks.due("most falls stay", x.count(7), 9);
    }

    // ---- 16 stands with rule; 17

    private void ifFed() {
        FallingPatterns x = with("bab;ab;b;aab");
        read(x, "ba");
        long before = x.digest();
        int[][] due = {{3, 1, 0, -1}, {7, 0, 3, 0}, {0, 3, 0, -1}, {0, 3, 0, -1}};
        for (int letter = 0; letter < 4; letter++) {
            for (int what = 0; what <= 3; what++) {
                checks.due("ifFed " + letter + " " + what, x.ifFed(letter, what),
                        due[letter][what]);
            }
        }
        checks.due("ifFed: changes nothing", x.digest(), before);
        x.rule(1);
        checks.due("ifFed: rule 1", x.ifFed(1, 2), 1);
        checks.due("ifFed: rule 1", x.ifFed(1, 3), 0);
        x.rule(2);
        checks.due("ifFed: rule 2", x.ifFed(1, 2), 1);
        checks.due("ifFed: rule 2", x.ifFed(1, 3), 1);
        for (int wrong : new int[] {-1, 4, MIN, MAX}) {
            checks.dueThrow("ifFed " + wrong, ARGUMENT, () -> x.ifFed(wrong, 0));
            checks.dueThrow("ifFed what " + wrong, ARGUMENT, () -> x.ifFed(0, wrong));
        }
    }

    // ---- 18

    private void lettersTo() {
        FallingPatterns x = with("abab;b;bcd;aaa");
        checks.due("lettersTo from nothing", x.lettersTo(0), 4);
        read(x, "ab");
        checks.due("lettersTo", x.lettersTo(0), 2);
        checks.due("lettersTo: at least 1", x.lettersTo(1), 1);
        checks.due("lettersTo: an end of the state", x.lettersTo(2), 2);
        checks.due("lettersTo", x.lettersTo(3), 3);
        checks.due("lettersTo of none", x.lettersTo(4), -1);
        read(x, "ab");
        checks.due("lettersTo again", x.lettersTo(0), 2);
        x.begin();
        read(x, "a3");
        checks.due("lettersTo again, with overlap", x.lettersTo(3), 1);
        for (int slot : new int[] {-1, 8, MIN, MAX}) {
            checks.dueThrow("lettersTo " + slot, INDEX, () -> x.lettersTo(slot));
        }
    }

    // ---- 19

    private void ifRepeated() {
        FallingPatterns x = with("a;aa;baa");
        x.feed(1);
        long before = x.digest();
        checks.due("ifRepeated once", x.ifRepeated(0, 1), 1);
        checks.due("ifRepeated twice", x.ifRepeated(0, 2), 4);
        checks.due("ifRepeated most", x.ifRepeated(0, 200), 400);
        checks.due("ifRepeated of no match", x.ifRepeated(3, 200), 0);
        checks.due("ifRepeated: changes nothing", x.digest(), before);
        x.remove(0);
        x.rule(1);
        checks.due("ifRepeated: rule 1", x.ifRepeated(0, 9), 8);
        x.rule(2);
        checks.due("ifRepeated: rule 2", x.ifRepeated(0, 9), 4);
        x.feed(0);
        x.feed(0);
        checks.due("ifRepeated: behind a match", x.ifRepeated(0, 1), 0);
        checks.due("ifRepeated: behind a match", x.ifRepeated(0, 2), 1);
        for (int letter : new int[] {-1, 4, MIN, MAX}) {
            checks.dueThrow("ifRepeated " + letter, ARGUMENT, () -> x.ifRepeated(letter, 1));
        }
        for (int times : new int[] {0, 201, -1, MIN, MAX}) {
            checks.dueThrow("ifRepeated times " + times, ARGUMENT, () -> x.ifRepeated(0, times));
        }
    }

    // ---- 20

    private void heaviest() {
        FallingPatterns x = new FallingPatterns();
        checks.due("heaviest of none", x.heaviest(), -1);
        add(x, "abcd;ab;bcd;ba");
        checks.due("heaviest: the lowest of several", x.heaviest(), 200);
        x.remove(3);
        checks.due("heaviest", x.heaviest(), 302);
        FallingPatterns y = with("ab;abab");
        y.remove(1);
        checks.due("heaviest of one", y.heaviest(), 200);
        add(y, "a");
        checks.due("heaviest: one without own states", y.heaviest(), 100);
        y.remove(0);
        checks.due("heaviest in slot 1", y.heaviest(), 101);
        checks.due("heaviest of 8 letters", with("a;b;abcdabcd").heaviest(), 702);
        checks.due("heaviest of 8 letters", with("b;abcdabcd").heaviest(), 801);
    }

    // ---- 21

    private void sharing() {
        checks.due("sharing of none", new FallingPatterns().sharing(), 1.0);
        checks.due("sharing", with("ab;abcd;d").sharing(), 5.0 / 7.0);
        checks.due("sharing of nothing shared", with("ab;cd").sharing(), 1.0);
        checks.due("sharing", with("a;aa;aaa;aaaa;aaaaa;aaaaaa;aaaaaaa;aaaaaaaa").sharing(),
                8.0 / 36.0);
    }

    // ---- 22

    private void digest() {
        FallingPatterns x = new FallingPatterns();
        long empty = new Model().digest();
        checks.due("digest of a new object", x.digest(), empty);
        x.append(97);
        checks.due("digest: the buffer", x.digest() != empty, true);
        x.clearBuffer();
        checks.due("digest: changes nothing", x.digest(), empty);
        Model model = new Model();
        for (char code : "abcd;ab;d".toCharArray()) {
            x.append(code);
            model.append(code);
        }
        x.add();
        model.add();
        x.feed(1);
        model.feed(1);
        x.append('~');
        model.append('~');
        checks.due("digest", x.digest(), model.digest());
    }
}
