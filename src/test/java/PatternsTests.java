/** Promises 1 to 4: a new object, and the calls under "patterns". */
public final class PatternsTests extends Sentences {

    public static void main(String[] args) {
        new PatternsTests().runAll();
    }

    // ---- Promise 1: A new object

    @Sentence(promise = 1, value = "Creates a machine without patterns")
    void aNewObjectHasNoPatterns() {
        FallingPatterns x = new FallingPatterns();
        checks.due("patterns", words(x), ",,,,,,,");
        checks.due("lengths", slots(x, 0), "0 0 0 0 0 0 0 0");
        checks.due("matches", slots(x, 1), "0 0 0 0 0 0 0 0");
        checks.due("places", slots(x, 2), "-1 -1 -1 -1 -1 -1 -1 -1");
        FallingPatterns y = with("ab");
        checks.due("objects are apart", x.count(0), 0);
        checks.due("objects are apart", y.count(0), 1);
    }

    @Sentence(promise = 1, value = "ahead of a text")
    void aNewObjectIsAheadOfAText() {
        FallingPatterns x = new FallingPatterns();
        checks.due("counts", counts(x), "0 1 0 0 0 -1 0 0 0 0");
        checks.due("begin", x.begin(), 0);
        checks.dueThrow("nothing to undo", STATE, () -> new FallingPatterns().undo());
    }

    @Sentence(promise = 1, value = "with an empty buffer")
    void aNewObjectHasAnEmptyBuffer() {
        checks.due("clearBuffer", new FallingPatterns().clearBuffer(), 0);
        checks.due("append", new FallingPatterns().append('a'), 1);
    }

    // ---- Promise 2: add

    @Sentence(promise = 2, value = "Adds the patterns in the buffer, each at the lowest empty slot")
    void addTakesTheLowestEmptySlot() {
        FallingPatterns x = with("a;b;c;d;aa;ab;ac;ad");
        x.remove(7);
        checks.due("the last slot", add(x, "ba"), 1);
        checks.due("the last slot", words(x), "a,b,c,d,aa,ab,ac,ba");
        x.remove(0);
        x.remove(3);
        x.remove(5);
        checks.due("of 3 slots", add(x, "dd;cc"), 2);
        checks.due("the lower two", words(x), "dd,b,c,cc,aa,,ac,ba");
    }

    @Sentence(promise = 2, value = "one after the other")
    void addTakesOneAfterTheOther() {
        FallingPatterns x = new FallingPatterns();
        add(x, "d;abcdabcd;a;cc");
        checks.due("in their order", words(x), "d,abcdabcd,a,cc,,,,");
    }

    @Sentence(promise = 2, value = "those that are there already left out")
    void addLeavesOutThoseThatAreThere() {
        FallingPatterns x = with("ab;c");
        checks.due("first, between and last", add(x, "c;d;ab;dd;c"), 2);
        checks.due("no slot is left out for them", words(x), "ab,c,d,dd,,,,");
        checks.due("one that the text has brought", add(x, "aa;bb;aa"), 2);
        checks.due("one that the text has brought", words(x), "ab,c,d,dd,aa,bb,,");
        x.remove(0);
        checks.due("one that is there no more", add(x, "ab"), 1);
    }

    @Sentence(promise = 2, value = "those that are there already left out")
    void addLeavesCountsAlone() {
        FallingPatterns x = behind("ab;b", "ab");
        add(x, "b;ab;a");
        checks.due("matches", slots(x, 1), "1 1 0 0 0 0 0 0");
        checks.due("places", slots(x, 2), "1 1 -1 -1 -1 -1 -1 -1");
    }

    @Sentence(promise = 2, value = "all or none")
    void addAddsAllOrNone() {
        FallingPatterns x = with("a;b;c;d;aa;ab");
        type(x, "ac;ad;ba");
        checks.dueThrow("one too many", STATE, x::add);
        checks.due("none", words(x), "a,b,c,d,aa,ab,,");
        x.clearBuffer();
        type(x, "ac;ad;");
        checks.dueThrow("not complete", ARGUMENT, x::add);
        checks.due("none", words(x), "a,b,c,d,aa,ab,,");
        x.clearBuffer();
        checks.due("as many as there is room for", add(x, "ac;ad"), 2);
        checks.due("all", words(x), "a,b,c,d,aa,ab,ac,ad");
    }

    @Sentence(promise = 2, value = "and clears the buffer")
    void addClearsTheBuffer() {
        FallingPatterns x = with("ab;c");
        checks.due("the buffer", x.clearBuffer(), 0);
        add(x, "c;ab");
        checks.due("the buffer, though none is new", x.clearBuffer(), 0);
        checks.dueThrow("nothing is left to add", ARGUMENT, x::add);
    }

    @Sentence(promise = 2, value = "Undoable.")
    void addIsUndoable() {
        dueUndone("add", "abab;d", x -> x.add());
        dueUndone("add of none", "ab;c", x -> x.add());
        dueUndone("add up to 8", "abab;d;dd;ddd", x -> x.add());
    }

    @Sentence(promise = 2, value = "Returns how many are new.")
    void addReturnsHowManyAreNew() {
        FallingPatterns x = new FallingPatterns();
        checks.due("none", add(x, "a") - add(x, "a"), 1);
        checks.due("7 of 9 parts", add(x, "b;c;a;d;aa;ab;b;ac;ad"), 7);
        checks.due("none of 8", add(x, "ad;ac;ab;aa;d;c;b;a"), 0);
        checks.due("8", add(new FallingPatterns(), "b;c;a;d;aa;ab;ac;ad"), 8);
    }

    @Sentence(promise = 2, value = "Throws `IllegalArgumentException` if the buffer is not "
            + "complete patterns as a text")
    void addThrowsIfTheBufferIsNotPatterns() {
        String[] wrong = {"", ";", "a;", ";a", "a;;b", "abcdabcda", "e", "`", "aB", "a2", "a,b",
            "ab;!", "d;abcdabcda;d", "a;b;c;d;aa;ab;ac;ad;ba;e"};
        for (String text : wrong) {
            FallingPatterns x = with("ab;cd");
            type(x, text);
            checks.dueThrow("add of \"" + text + "\"", ARGUMENT, x::add);
            checks.due("add of \"" + text + "\" adds none", words(x), "ab,cd,,,,,,");
            checks.due("add of \"" + text + "\" saves nothing", x.count(9), 1);
            checks.due("the buffer \"" + text + "\" stays", x.clearBuffer(), text.length());
        }
    }

    @Sentence(promise = 2, value = "Throws `IllegalStateException` if there would be more than 8")
    void addThrowsIfThereWouldBeMoreThan8() {
        FallingPatterns x = with("a;b;c;d;aa;ab");
        type(x, "ac;a;ad;ba");
        checks.dueThrow("9", STATE, x::add);
        x.clearBuffer();
        checks.due("8, with one that is there and one twice", add(x, "ac;a;ad;ac"), 2);
        checks.due("8, with none new", add(x, "ad;ac;a"), 0);
        type(x, "ba");
        checks.dueThrow("9, with none that is there", STATE, x::add);
        x.remove(3);
        checks.due("8 again", x.add(), 1);
        type(x, "a;dd;b");
        checks.dueThrow("9, between those that are there", STATE, x::add);
        FallingPatterns y = type(new FallingPatterns(), "a;b;c;d;aa;ab;ac;ad;ba");
        checks.dueThrow("9 in one text", STATE, y::add);
        checks.due("none of them is added", y.count(0), 0);
    }

    // ---- Promise 3: remove

    @Sentence(promise = 3, value = "Removes a pattern.")
    void removeRemovesAPattern() {
        FallingPatterns x = with("a;b;c;d;aa;bb;cc;dd");
        x.remove(0);
        checks.due("the first slot", words(x), ",b,c,d,aa,bb,cc,dd");
        x.remove(7);
        checks.due("the last slot", words(x), ",b,c,d,aa,bb,cc,");
        for (int slot = 1; slot <= 6; slot++) {
            x.remove(slot);
        }
        checks.due("all", counts(x), "0 1 0 0 0 -1 0 0 0 6");
    }

    @Sentence(promise = 3, value = "Removes a pattern.")
    void removeLeavesTheOthers() {
        FallingPatterns x = behind("ab;b;abab", "abab");
        x.remove(1);
        checks.due("matches", slots(x, 1), "2 0 1 0 0 0 0 0");
        checks.due("places", slots(x, 2), "3 -1 3 -1 -1 -1 -1 -1");
        checks.due("counts", counts(x), "2 5 4 4 5 3 0 0 6 3");
    }

    @Sentence(promise = 3, value = "Undoable.")
    void removeIsUndoable() {
        dueUndone("remove", "", x -> x.remove(0));
        dueUndone("remove of the latest match", "", x -> x.remove(2));
    }

    @Sentence(promise = 3, value = "Returns how many matches of it were counted.")
    void removeReturnsHowManyWereCounted() {
        FallingPatterns x = behind("ab;b;d", "ab2");
        checks.due("none", x.remove(2), 0);
        checks.due("one", x.remove(0), 1);
        checks.due("two", x.remove(1), 2);
        FallingPatterns y = withRule(1, "aa;a");
        read(y, "a9");
        checks.due("only those that counted", y.remove(1), 1);
        y.begin();
        checks.due("only those since the text began", y.remove(0), 0);
    }

    @Sentence(promise = 3, value = "Throws `IndexOutOfBoundsException` if there is no such slot")
    void removeThrowsIfThereIsNoSuchSlot() {
        FallingPatterns x = with("a;b;c;d;aa;bb;cc;dd");
        for (int slot : NO_SLOTS) {
            checks.dueThrow("slot " + slot, INDEX, () -> x.remove(slot));
            checks.dueThrow("slot " + slot, INDEX, () -> new FallingPatterns().remove(slot));
        }
        checks.due("none is removed", x.count(0), 8);
    }

    @Sentence(promise = 3, value = "Throws `IllegalStateException` if it is empty")
    void removeThrowsIfTheSlotIsEmpty() {
        FallingPatterns x = with("ab;b");
        x.remove(0);
        checks.dueThrow("removed before", STATE, () -> x.remove(0));
        for (int slot = 2; slot < 8; slot++) {
            int empty = slot;
            checks.dueThrow("never with a pattern, " + slot, STATE, () -> x.remove(empty));
        }
        checks.due("nothing is saved", x.count(9), 2);
    }

    // ---- Promise 4: rule

    @Sentence(promise = 4, value = "Changes the rule for matches.")
    void ruleChangesTheRule() {
        FallingPatterns x = with("aa;a");
        checks.due("by the rule 0", read(x, "a3"), 5);
        x.rule(1);
        checks.due("by the rule 1", read(x, "a3"), 3);
        x.rule(2);
        checks.due("by the rule 2", read(x, "a3"), 3);
        checks.due("by the rule 2", slots(x, 1), "5 6 0 0 0 0 0 0");
        x.rule(0);
        checks.due("by the rule 0 again", x.feed(0), 2);
    }

    @Sentence(promise = 4, value = "Changes the rule for matches.")
    void ruleLeavesWhatWasCounted() {
        FallingPatterns x = behind("ab;b", "ab");
        String counts = counts(x);
        x.rule(2);
        checks.due("counts but for the saved ones", counts(x), counts.replaceAll("2$", "3"));
        checks.due("matches", slots(x, 1), "1 1 0 0 0 0 0 0");
        checks.due("places", slots(x, 2), "1 1 -1 -1 -1 -1 -1 -1");
    }

    @Sentence(promise = 4, value = "Undoable.")
    void ruleIsUndoable() {
        dueUndone("rule", "", x -> x.rule(0));
        dueUndone("rule, the same one", "", x -> x.rule(2));
    }

    @Sentence(promise = 4, value = "Returns the previous one.")
    void ruleReturnsThePreviousOne() {
        FallingPatterns x = new FallingPatterns();
        checks.due("at first", x.rule(2), 0);
        checks.due("another one", x.rule(1), 2);
        checks.due("the same one", x.rule(1), 1);
        checks.due("back", x.rule(0), 1);
    }

    @Sentence(promise = 4, value = "Throws `IllegalArgumentException` if rule is out of range")
    void ruleThrowsIfItIsOutOfRange() {
        FallingPatterns x = new FallingPatterns();
        x.rule(1);
        for (int rule : new int[] {-1, 3, MIN, MAX}) {
            checks.dueThrow("rule " + rule, ARGUMENT, () -> x.rule(rule));
            checks.due("the rule stays", x.setting(), 1);
        }
        checks.due("nothing is saved", x.count(9), 1);
        checks.due("the lowest", x.rule(0), 1);
        checks.due("the highest", x.rule(2), 0);
    }
}
