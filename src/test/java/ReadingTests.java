/** Promises 5 to 7: the calls under "reading". */
public final class ReadingTests extends Sentences {

    public static void main(String[] args) {
        new ReadingTests().runAll();
    }

    // ---- Promise 5: feed

    @Sentence(promise = 5, value = "Reads a letter.")
    void feedReadsALetter() {
        FallingPatterns x = with("ab;b;cab;d");
        x.feed(2);
        checks.due("behind c", counts(x), "4 8 3 1 0 -1 0 0 7 2");
        x.feed(0);
        x.feed(1);
        checks.due("behind cab", counts(x), "4 8 7 3 3 2 0 0 7 4");
        x.feed(3);
        checks.due("behind cabd", counts(x), "4 8 4 4 4 3 3 3 7 5");
        FallingPatterns none = new FallingPatterns();
        none.feed(3);
        checks.due("without patterns", counts(none), "0 1 0 1 0 -1 1 1 0 1");
    }

    @Sentence(promise = 5, value = "Undoable.")
    void feedIsUndoable() {
        dueUndone("feed", "", x -> x.feed(1));
        dueUndone("feed of a letter that falls", "", x -> x.feed(3));
    }

    @Sentence(promise = 5, value = "Returns how many matches count by it.")
    void feedReturnsHowManyCount() {
        FallingPatterns x = with("ab;b;cab");
        checks.due("none", x.feed(2), 0);
        checks.due("none", x.feed(0), 0);
        checks.due("3", x.feed(1), 3);
        checks.due("only those by it", x.feed(1), 1);
        checks.due("without patterns", new FallingPatterns().feed(0), 0);
        checks.due("8", behind(ROWS_OF_A, "a7").feed(0), 8);
    }

    @Sentence(promise = 5, value = "Throws `IllegalArgumentException` if letter is out of range")
    void feedThrowsIfTheLetterIsOutOfRange() {
        FallingPatterns x = with("a;d");
        for (int letter : NO_LETTERS) {
            checks.dueThrow("letter " + letter, ARGUMENT, () -> x.feed(letter));
        }
        checks.due("nothing is read", counts(x), "2 3 0 0 0 -1 0 0 2 1");
        checks.due("the lowest", x.feed(0), 1);
        checks.due("the highest", x.feed(3), 1);
    }

    @Sentence(promise = 5, value = "Throws `IllegalStateException` if 9999 letters were read "
            + "since the text began")
    void feedThrowsIf9999LettersWereRead() {
        FallingPatterns x = farBehind("a", 9998);
        checks.due("the 9999th letter", x.feed(0), 1);
        checks.due("its place", x.count(5), 9998);
        checks.dueThrow("the 10000th letter", STATE, () -> x.feed(0));
        checks.due("letters that were read", x.count(3), 9999);
        x.begin();
        checks.due("since the text began", x.feed(0), 1);
        x.undo();
        x.undo();
        checks.dueThrow("the 10000th letter, behind undo", STATE, () -> x.feed(0));
        x.undo();
        checks.due("the 9999th letter, behind undo", x.feed(0), 1);
    }

    // ---- Promise 6: feedAll

    @Sentence(promise = 6, value = "Reads the letters in the buffer")
    void feedAllReadsTheLetters() {
        FallingPatterns x = with("ab;aab;d");
        read(x, "a2bda9");
        FallingPatterns y = with("ab;aab;d");
        for (char code : "aabdaaaaaaaaa".toCharArray()) {
            y.feed(code - 'a');
        }
        checks.due("counts but for the saved ones", counts(x).replaceAll("2$", "6"), counts(y));
        checks.due("counts", counts(x), "3 6 3 13 3 3 10 2 6 2");
        checks.due("matches", slots(x, 1), slots(y, 1));
        checks.due("places", slots(x, 2), slots(y, 2));
        read(x, "b");
        checks.due("a match over two calls", x.pattern(1, 2), 13);
    }

    @Sentence(promise = 6, value = "and clears it")
    void feedAllClearsTheBuffer() {
        FallingPatterns x = new FallingPatterns();
        read(x, "ab9");
        checks.due("the buffer", x.clearBuffer(), 0);
        checks.dueThrow("nothing is left to read", ARGUMENT, x::feedAll);
    }

    @Sentence(promise = 6, value = "Undoable, as one call.")
    void feedAllIsUndoableAsOneCall() {
        dueUndone("feedAll", "b9abc3a", x -> x.feedAll());
        dueUndone("feedAll of 270 letters", "b9".repeat(30), x -> x.feedAll());
        dueUndone("feedAll of one letter", "b", x -> x.feedAll());
    }

    @Sentence(promise = 6, value = "Returns how many matches count by them.")
    void feedAllReturnsHowManyCount() {
        FallingPatterns x = with("ab;b;cab");
        checks.due("none", read(x, "ca"), 0);
        checks.due("3, as the letters before are read, too", read(x, "b"), 3);
        checks.due("only those by them", read(x, "abd"), 2);
        checks.due("without patterns", read(new FallingPatterns(), "a9"), 0);
        checks.due("the most", read(with(ROWS_OF_A), "a9".repeat(30)), 8 * 270 - 28);
        FallingPatterns y = withRule(2, "aa");
        checks.due("by the rule", read(y, "a9"), 4);
        checks.due("by the rule, over two calls", read(y, "a"), 1);
    }

    @Sentence(promise = 6, value = "Throws `IllegalArgumentException` if the buffer is not "
            + "complete letters as a text")
    void feedAllThrowsIfTheBufferIsNotLetters() {
        String[] wrong = {"", "2", "a1", "a0", "a22", "ab;c", "e", "`", "a2e", "A", "a:", "ab!"};
        for (String text : wrong) {
            FallingPatterns x = with("a");
            type(x, text);
            checks.dueThrow("feedAll of \"" + text + "\"", ARGUMENT, x::feedAll);
            checks.due("feedAll of \"" + text + "\" reads nothing", x.count(3), 0);
            checks.due("feedAll of \"" + text + "\" counts nothing", x.count(4), 0);
            checks.due("feedAll of \"" + text + "\" saves nothing", x.count(9), 1);
            checks.due("the buffer \"" + text + "\" stays", x.clearBuffer(), text.length());
        }
    }

    @Sentence(promise = 6, value = "Throws `IllegalStateException` if more than 9999 letters "
            + "would have been read since the text began")
    void feedAllThrowsIfMoreThan9999LettersWouldHaveBeenRead() {
        FallingPatterns x = farBehind("a;aa", 9990);
        type(x, "a9b");
        checks.dueThrow("10000 letters", STATE, x::feedAll);
        checks.due("nothing is read", x.count(3), 9990);
        checks.due("the buffer stays", x.clearBuffer(), 3);
        checks.due("9999 letters", read(x, "a9"), 18);
        checks.due("the last place", x.count(5), 9998);
        type(x, "a");
        checks.dueThrow("one letter more", STATE, x::feedAll);
        x.undo();
        checks.due("behind undo", x.feedAll(), 2);
        x.begin();
        checks.due("since the text began", read(x, "a9".repeat(30)), 539);
    }

    // ---- Promise 7: begin

    @Sentence(promise = 7, value = "Begins a text anew: nothing was read")
    void beginForgetsWhatWasRead() {
        FallingPatterns x = behind("ab;b", "abda");
        x.begin();
        checks.due("letters", x.count(3), 0);
        checks.due("the state", x.count(2), 0);
        checks.due("a match of letters before", x.feed(1), 1);
        checks.due("the place of the first letter", x.count(5), 0);
        x.begin();
        add(x, "bb;bbb");
        checks.due("the state by letters before", x.count(2), 0);
    }

    @Sentence(promise = 7, value = "no match is counted")
    void beginForgetsWhatWasCounted() {
        FallingPatterns x = behind("ab;b", "ab3");
        x.begin();
        checks.due("matches", x.count(4), 0);
        checks.due("matches by pattern", slots(x, 1), "0 0 0 0 0 0 0 0");
        checks.due("places", slots(x, 2), "-1 -1 -1 -1 -1 -1 -1 -1");
        checks.due("the match that counted last", x.count(5), NONE);
        x.rule(2);
        checks.due("nothing to overlap at the place 0", x.feed(1), 1);
    }

    @Sentence(promise = 7, value = "no falls are")
    void beginForgetsTheFalls() {
        FallingPatterns x = behind("aaaa", "a4bc");
        checks.due("falls before", x.count(6), 6);
        x.begin();
        checks.due("falls", x.count(6), 0);
        checks.due("the most falls", x.count(7), 0);
        x.feed(1);
        checks.due("the most falls of this text", x.count(7), 1);
    }

    @Sentence(promise = 7, value = "Begins a text anew")
    void beginLeavesTheRest() {
        FallingPatterns x = withRule(2, "ab;b");
        type(x, "ab").begin();
        checks.due("patterns", words(x), "ab,b,,,,,,");
        checks.due("the rule", x.setting(), 2);
        checks.due("the buffer", x.clearBuffer(), 2);
    }

    @Sentence(promise = 7, value = "Undoable.")
    void beginIsUndoable() {
        dueUndone("begin", "", x -> x.begin());
        dueUndone("begin, with text in the buffer", "ab", x -> x.begin());
    }

    @Sentence(promise = 7, value = "Returns how many letters were read.")
    void beginReturnsHowManyWereRead() {
        FallingPatterns x = new FallingPatterns();
        checks.due("none", x.begin(), 0);
        read(x, "a9b");
        checks.due("10", x.begin(), 10);
        checks.due("none since then", x.begin(), 0);
        checks.due("the most", farBehind("a", 9999).begin(), 9999);
    }
}
