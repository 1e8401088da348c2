/** Promises 8 to 11: the calls under "texts". */
public final class TextsTests extends Sentences {

    public static void main(String[] args) {
        new TextsTests().runAll();
    }

    // ---- Promise 8: append

    @Sentence(promise = 8, value = "Appends a character to the buffer.")
    void appendAppendsACharacter() {
        FallingPatterns x = new FallingPatterns();
        type(x, "ba;c").add();
        checks.due("behind those before it", words(x), "ba,c,,,,,,");
        type(x, "~!");
        checks.due("as it is, the digest tells", x.digest(), hashOf(() -> with("ba;c"), "~!"));
    }

    @Sentence(promise = 8, value = "code: the character code, 33 to 126")
    void appendTakes33To126() {
        FallingPatterns x = new FallingPatterns();
        for (int code = 33; code <= 126; code++) {
            checks.due("code " + code, x.append(code), 1);
            x.clearBuffer();
        }
    }

    @Sentence(promise = 8, value = "Returns the new length of the buffer.")
    void appendReturnsTheNewLength() {
        FallingPatterns x = new FallingPatterns();
        for (int length = 1; length <= 60; length++) {
            checks.due("the length", x.append('!'), length);
        }
        x.clearBuffer();
        checks.due("the length behind clearBuffer", x.append('a'), 1);
        x.feedAll();
        checks.due("the length behind feedAll", x.append('a'), 1);
        x.add();
        checks.due("the length behind add", x.append('a'), 1);
    }

    @Sentence(promise = 8, value = "Throws `IllegalArgumentException` if code is not 33 to 126")
    void appendThrowsIfTheCodeIsNot33To126() {
        FallingPatterns x = type(new FallingPatterns(), "ab");
        for (int code : new int[] {32, 127, 0, -1, 33 - 256, 353, 65536 + 97, MIN, MAX}) {
            checks.dueThrow("code " + code, ARGUMENT, () -> x.append(code));
        }
        checks.due("nothing is appended", x.clearBuffer(), 2);
    }

    @Sentence(promise = 8, value = "Throws `IllegalStateException` if the buffer has 60 characters")
    void appendThrowsIfTheBufferHas60Characters() {
        FallingPatterns x = type(new FallingPatterns(), "a".repeat(60));
        checks.dueThrow("the 61st", STATE, () -> x.append('b'));
        checks.dueThrow("the 61st", STATE, () -> x.append('b'));
        checks.due("nothing is appended", x.clearBuffer(), 60);
        checks.due("the first again", x.append('b'), 1);
    }

    // ---- Promise 9: clearBuffer

    @Sentence(promise = 9, value = "Clears the buffer.")
    void clearBufferClearsTheBuffer() {
        FallingPatterns x = type(new FallingPatterns(), "ab;!");
        x.clearBuffer();
        checks.due("nothing is left", x.clearBuffer(), 0);
        checks.dueThrow("nothing is left to add", ARGUMENT, x::add);
        checks.due("nothing is left before others", add(x, "cd"), 1);
        checks.due("nothing is left before others", words(x), "cd,,,,,,,");
        type(x, "cd;a");
        x.clearBuffer();
        type(x, "b");
        checks.due("nothing is left behind others", x.add(), 1);
        checks.due("nothing is left behind others", words(x), "cd,b,,,,,,");
        checks.due("saved", x.count(9), 2);
    }

    @Sentence(promise = 9, value = "Returns the length that it had.")
    void clearBufferReturnsTheLength() {
        for (int length = 0; length <= 60; length++) {
            FallingPatterns x = type(new FallingPatterns(), "!".repeat(length));
            checks.due("the length", x.clearBuffer(), length);
            checks.due("the length that it has then", x.clearBuffer(), 0);
        }
    }

    // ---- Promise 10: firstError

    private void dueError(String text, boolean arePatterns, int due) {
        FallingPatterns x = type(new FallingPatterns(), text);
        checks.due("the first error of \"" + text + "\"", x.firstError(arePatterns), due);
        checks.due("again, as nothing is changed", x.firstError(arePatterns), due);
        checks.due("the buffer stays", x.clearBuffer(), text.length());
    }

    @Sentence(promise = 10, value = "arePatterns: whether it is read as patterns, otherwise as "
            + "letters")
    void firstErrorReadsPatternsOrLetters() {
        FallingPatterns x = type(new FallingPatterns(), "a;b2");
        checks.due("as patterns", x.firstError(true), 3);
        checks.due("as letters", x.firstError(false), 1);
    }

    @Sentence(promise = 10, value = "Returns the index of the first character that is a syntax "
            + "error")
    void firstErrorReturnsTheIndex() {
        dueError("!", true, 0);
        dueError("!", false, 0);
        dueError("a!;!", true, 1);
        dueError("a!b!", false, 1);
        dueError(";;", true, 0);
        dueError("22", false, 0);
        dueError("abcdabcda", true, 8);
        dueError("abcdabcda;", true, 8);
        dueError("abcdabcd;".repeat(6) + "abcda!", true, 59);
        dueError("a9".repeat(29) + "a!", false, 59);
    }

    @Sentence(promise = 10, value = "the length of the buffer if there is none")
    void firstErrorReturnsTheLengthIfThereIsNone() {
        dueError("", true, 0);
        dueError("", false, 0);
        dueError("a", true, 1);
        dueError("a", false, 1);
        dueError("a;", true, 2);
        dueError("a2", false, 2);
        dueError("abcdabcd;abcdabcd", true, 17);
        dueError("a;a;b;b;c;c;d;d;aa;bb;cc;dd;ab", true, 30);
        dueError("abcdabcd;".repeat(6) + "abcda;", true, 60);
        dueError("a9".repeat(30), false, 60);
    }

    // ---- Promise 11: undo

    @Sentence(promise = 11, value = "Restores the latest saved state")
    void undoRestoresTheLatest() {
        FallingPatterns x = new FallingPatterns();
        Checks.Call[] calls = {() -> add(x, "ab"), () -> x.feed(0), () -> x.feed(1),
            () -> x.rule(2), () -> x.remove(0), x::begin};
        long[] before = new long[calls.length];
        for (int call = 0; call < calls.length; call++) {
            before[call] = x.digest();
            calls[call].answer();
        }
        String[] due = {"0 1 0 0 0 -1 0 0 0 0", "1 3 0 0 0 -1 0 0 2 1", "1 3 1 1 0 -1 0 0 2 2",
            "1 3 2 2 1 1 0 0 2 3", "1 3 2 2 1 1 0 0 2 4", "0 1 0 2 1 1 0 0 0 5"};
        int[] rules = {0, 0, 0, 0, 2, 2};
        for (int call = calls.length - 1; call >= 0; call--) {
            x.undo();
            checks.due("the counts before call " + call, counts(x), due[call]);
            checks.due("the rule before call " + call, x.setting(), rules[call]);
            checks.due("all that is told before call " + call, x.digest(), before[call]);
        }
    }

    @Sentence(promise = 11, value = "and drops it")
    void undoDropsIt() {
        FallingPatterns x = new FallingPatterns();
        x.feed(0);
        x.feed(1);
        x.undo();
        checks.due("the one before it is left", x.count(9), 1);
        checks.due("the one before it is left", x.undo(), 0);
        checks.due("the one before it is restored", x.count(3), 0);
        checks.dueThrow("none is left", STATE, x::undo);
    }

    @Sentence(promise = 11, value = "Returns how many are left.")
    void undoReturnsHowManyAreLeft() {
        FallingPatterns x = new FallingPatterns();
        x.feed(0);
        checks.due("of one", x.undo(), 0);
        for (int letter = 0; letter < 10; letter++) {
            x.feed(0);
        }
        for (int left = 5; left >= 0; left--) {
            checks.due("of at most 6", x.undo(), left);
        }
    }

    @Sentence(promise = 11, value = "Throws `IllegalStateException` if there is none")
    void undoThrowsIfThereIsNone() {
        FallingPatterns x = new FallingPatterns();
        checks.dueThrow("a new object", STATE, x::undo);
        x.feed(0);
        x.undo();
        checks.dueThrow("all are undone", STATE, x::undo);
        checks.dueThrow("all are undone", STATE, x::undo);
        checks.due("nothing is changed", counts(x), "0 1 0 0 0 -1 0 0 0 0");
        x.feed(0);
        checks.due("saved again", x.undo(), 0);
    }
}
