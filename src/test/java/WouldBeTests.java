/** Promises 17 to 22: the calls under "what would be; nothing is changed". */
public final class WouldBeTests extends Sentences {

    public static void main(String[] args) {
        new WouldBeTests().runAll();
    }

    @Sentence("what would be; nothing is changed")
    void nothingIsChanged() {
        dueUnchanged("ifFed", "ab", x -> x.ifFed(1, 2) + x.ifFed(3, 0));
        dueUnchanged("lettersTo", "ab", x -> x.lettersTo(0) + x.lettersTo(7));
        dueUnchanged("ifRepeated", "ab", x -> x.ifRepeated(0, 200) + x.ifRepeated(1, 1));
        dueUnchanged("heaviest", "ab", x -> x.heaviest());
        dueUnchanged("sharing", "ab", x -> (long) x.sharing());
        dueUnchanged("digest", "ab", x -> x.digest());
    }

    // ---- Promise 17: ifFed

    /** Held against the letter itself, on a machine that has gone the same way. */
    @Sentence(promise = 17, value = "Tells what a letter would do.")
    void ifFedTellsWhatALetterWouldDo() {
        String[] texts = {"", "a", "ab", "aba", "bab", "dbab2", "abcab", "a9"};
        for (int rule = 0; rule <= 2; rule++) {
            for (String text : texts) {
                for (int letter = 0; letter < 4; letter++) {
                    FallingPatterns x = withRule(rule, "bab;ab;b;aab;abcabd;aaaa");
                    checks.due("read", text.isEmpty() || read(x, text) >= 0, true);
                    String told = "" + x.ifFed(letter, 0) + " " + x.ifFed(letter, 1) + " "
                            + x.ifFed(letter, 2);
                    int falls = x.count(6);
                    int count = x.feed(letter);
                    checks.due("behind " + text + ", " + letter, told,
                            x.count(2) + " " + (x.count(6) - falls) + " " + count);
                }
            }
        }
    }

    @Sentence(promise = 17, value = "0: the state then")
    void ifFedTellsTheState() {
        FallingPatterns x = behind("bab;ab;b;aab", "ba");
        checks.due("states", ifFed(x, 0), "3 7 0 0");
        checks.due("without patterns", ifFed(new FallingPatterns(), 0), "0 0 0 0");
        checks.due("8 letters", ifFed(behind("aaaaaaaa", "a8"), 0), "8 0 0 0");
    }

    @Sentence(promise = 17, value = "1: its falls")
    void ifFedTellsTheFalls() {
        FallingPatterns x = behind("bab;ab;b;aab", "ba");
        checks.due("falls", ifFed(x, 1), "1 0 3 3");
        checks.due("without patterns", ifFed(new FallingPatterns(), 1), "1 1 1 1");
        checks.due("from 8 letters", ifFed(behind("aaaaaaaa;b", "a8"), 1), "1 8 9 9");
    }

    @Sentence(promise = 17, value = "2: how many matches would count")
    void ifFedTellsHowManyWouldCount() {
        FallingPatterns x = behind("bab;ab;b;aab", "ba");
        checks.due("by the rule 0", ifFed(x, 2), "0 3 0 0");
        x.rule(1);
        checks.due("by the rule 1", ifFed(x, 2), "0 1 0 0");
        x.rule(2);
        checks.due("by the rule 2", ifFed(x, 2), "0 1 0 0");
        checks.due("all 8", ifFed(behind(ROWS_OF_A, "a7"), 2), "8 0 0 0");
        checks.due("without patterns", ifFed(new FallingPatterns(), 2), "0 0 0 0");
    }

    @Sentence(promise = 17, value = "3: the lowest slot of these, NONE without one")
    void ifFedTellsTheLowestSlot() {
        FallingPatterns x = behind("d;bab;ab;b;aab", "ba");
        checks.due("by the rule 0", ifFed(x, 3), "-1 1 -1 0");
        x.rule(1);
        checks.due("by the rule 1", ifFed(x, 3), "-1 1 -1 0");
        x.rule(2);
        checks.due("by the rule 2", ifFed(x, 3), "-1 2 -1 0");
        FallingPatterns y = withRule(1, "b;ab;dab");
        read(y, "da");
        checks.due("only of these", y.ifFed(1, 3), 2);
        checks.due("without patterns", ifFed(new FallingPatterns(), 3), "-1 -1 -1 -1");
        checks.due("the last slot", ifFed(with("a;c;d;aa;ac;ad;ba;b"), 3), "0 7 1 2");
    }

    @Sentence(promise = 17, value = "Throws `IllegalArgumentException` if letter or what is out "
            + "of range")
    void ifFedThrowsIfLetterOrWhatIsOutOfRange() {
        FallingPatterns x = with("ab");
        for (int letter : NO_LETTERS) {
            checks.dueThrow("letter " + letter, ARGUMENT, () -> x.ifFed(letter, 0));
            checks.dueThrow("both " + letter, ARGUMENT, () -> x.ifFed(letter, 4));
        }
        for (int what : new int[] {-1, 4, MIN, MAX}) {
            checks.dueThrow("what " + what, ARGUMENT, () -> x.ifFed(0, what));
            checks.dueThrow("what " + what, ARGUMENT, () -> x.ifFed(3, what));
        }
        checks.due("the last of both", x.ifFed(3, 3), NONE);
    }

    // ---- Promise 18: lettersTo

    private void dueLettersTo(String patterns, String letters, String due) {
        FallingPatterns x = letters.isEmpty() ? with(patterns) : behind(patterns, letters);
        StringBuilder told = new StringBuilder();
        for (int slot = 0; slot < x.count(0); slot++) {
            told.append(slot == 0 ? "" : " ").append(x.lettersTo(slot));
        }
        checks.due("letters to " + patterns + " behind " + letters, told.toString(), due);
    }

    @Sentence(promise = 18, value = "Returns the fewest letters")
    void lettersToReturnsTheFewest() {
        dueLettersTo("abab;b;bcd;aaa", "ab", "2 1 2 3");
        dueLettersTo("abcdabcd", "abcdabc", "1");
        dueLettersTo("abcdabcd;dd", "abcdabcdd", "8 1");
        dueLettersTo("aab;ab;cab", "ca", "2 1 1");
        dueLettersTo("aab;ab;cab", "a3", "1 1 3");
    }

    @Sentence(promise = 18, value = "at least 1")
    void lettersToReturnsAtLeast1() {
        dueLettersTo("a", "a", "1");
        dueLettersTo("aaaaaaaa", "a8", "1");
        dueLettersTo("abab;b", "abab", "2 1");
        dueLettersTo("abcd", "abcd", "4");
        dueLettersTo("abcdabca", "abcdabca", "7");
    }

    @Sentence(promise = 18, value = "behind which it would match, from the state")
    void lettersToReturnsThemFromTheState() {
        dueLettersTo("a;abcdabcd", "", "1 8");
        dueLettersTo("abcdabcd", "abc", "5");
        dueLettersTo("abcdabcd", "abcb", "8");
        FallingPatterns x = new FallingPatterns();
        read(x, "abcdabc");
        add(x, "abcdabcd");
        checks.due("from the state that a later pattern brings", x.lettersTo(0), 1);
        x.begin();
        checks.due("from the state of a new text", x.lettersTo(0), 8);
        FallingPatterns y = withRule(2, "ab;aba");
        read(y, "aba");
        checks.due("it would match, whether it would count or not", y.lettersTo(0), 1);
    }

    @Sentence(promise = 18, value = "NONE if the slot is empty")
    void lettersToReturnsNoneIfTheSlotIsEmpty() {
        FallingPatterns x = with("ab;b");
        x.remove(0);
        checks.due("removed", x.lettersTo(0), NONE);
        checks.due("never with a pattern", x.lettersTo(7), NONE);
        checks.due("a new object", new FallingPatterns().lettersTo(0), NONE);
    }

    @Sentence(promise = 18, value = "Throws `IndexOutOfBoundsException` if there is no such slot")
    void lettersToThrowsIfThereIsNoSuchSlot() {
        FallingPatterns x = with("a;b;c;d;aa;bb;cc;dd");
        for (int slot : NO_SLOTS) {
            checks.dueThrow("slot " + slot, INDEX, () -> x.lettersTo(slot));
        }
        checks.due("the first slot", x.lettersTo(0), 1);
        checks.due("the last slot", x.lettersTo(7), 2);
    }

    // ---- Promise 19: ifRepeated

    /** Held against the letters themselves, on a machine that has gone the same way. */
    @Sentence(promise = 19, value = "Tells how many matches would count, if a letter was read "
            + "again and again.")
    void ifRepeatedTellsHowManyWouldCount() {
        for (int rule = 0; rule <= 2; rule++) {
            for (int letter = 0; letter < 4; letter++) {
                FallingPatterns x = withRule(rule, "a;aaa;baa;bb;ca;d");
                read(x, "cab");
                int count = 0;
                for (int times = 1; times <= 12; times++) {
                    FallingPatterns ahead = withRule(rule, "a;aaa;baa;bb;ca;d");
                    read(ahead, "cab");
                    count += x.feed(letter);
                    checks.due("rule " + rule + ", " + letter + ", " + times + " times",
                            ahead.ifRepeated(letter, times), count);
                }
            }
        }
    }

    @Sentence(promise = 19, value = "times: 1 to 200: so often this letter is read")
    void ifRepeatedReads1To200Times() {
        FallingPatterns x = behind("a;aa;baa", "b");
        checks.due("once", x.ifRepeated(0, 1), 1);
        checks.due("twice", x.ifRepeated(0, 2), 4);
        checks.due("199 times", x.ifRepeated(0, 199), 398);
        checks.due("200 times", x.ifRepeated(0, 200), 400);
        checks.due("no match", x.ifRepeated(3, 200), 0);
        checks.due("without patterns", new FallingPatterns().ifRepeated(0, 200), 0);
        checks.due("all 8", with(ROWS_OF_A).ifRepeated(0, 200), 8 * 200 - 28);
    }

    @Sentence(promise = 19, value = "Returns how many matches would count.")
    void ifRepeatedLooksAtTheMatchThatCountedLast() {
        FallingPatterns x = withRule(2, "aa");
        checks.due("nothing counted before", x.ifRepeated(0, 9), 4);
        read(x, "a2");
        checks.due("overlaps the match before", x.ifRepeated(0, 1), 0);
        checks.due("one that does not", x.ifRepeated(0, 2), 1);
        checks.due("one behind the other", x.ifRepeated(0, 200), 100);
        x.feed(0);
        checks.due("one that does not", x.ifRepeated(0, 1), 1);
    }

    @Sentence(promise = 19, value = "Throws `IllegalArgumentException` if letter or times is out "
            + "of range")
    void ifRepeatedThrowsIfLetterOrTimesIsOutOfRange() {
        FallingPatterns x = with("a;d");
        for (int letter : NO_LETTERS) {
            checks.dueThrow("letter " + letter, ARGUMENT, () -> x.ifRepeated(letter, 1));
            checks.dueThrow("both " + letter, ARGUMENT, () -> x.ifRepeated(letter, 0));
        }
        for (int times : new int[] {0, 201, -1, MIN, MAX}) {
            checks.dueThrow("times " + times, ARGUMENT, () -> x.ifRepeated(0, times));
            checks.dueThrow("times " + times, ARGUMENT, () -> x.ifRepeated(3, times));
        }
        checks.due("the first letter, once", x.ifRepeated(0, 1), 1);
        checks.due("the last letter, 200 times", x.ifRepeated(3, 200), 200);
    }

    // ---- Promise 20: heaviest

    @Sentence(promise = 20, value = "Returns how many states would be no more if a pattern was "
            + "removed, for the pattern with which they are most")
    void heaviestTellsTheMostStates() {
        FallingPatterns x = with("abcd;ab;bcd;ba");
        x.remove(3);
        checks.due("a shared beginning stays", x.heaviest(), 302);
        checks.due("a whole pattern inside another", with("ab;abab").heaviest(), 201);
        checks.due("8 letters", with("abcdabcd").heaviest(), 800);
        checks.due("only the last letter", with("abcdabca;abcdabcd;d").heaviest(), 100);
        int before = x.count(1);
        x.remove(2);
        checks.due("as many as are no more", before - x.count(1), 3);
    }

    @Sentence(promise = 20, value = "of several the lowest slot")
    void heaviestTellsTheLowestSlot() {
        checks.due("2 of 4", with("d;abcd;ab;ba;bcd").heaviest(), 201);
        checks.due("all", with("a;b;c;d").heaviest(), 100);
        FallingPatterns x = with("aa;bb;cc;dd");
        x.remove(0);
        checks.due("an empty slot is lower", x.heaviest(), 201);
    }

    @Sentence(promise = 20, value = "told as 100 times that number plus the slot")
    void heaviestIsToldWithTheSlot() {
        checks.due("8 in the last slot", with("a;b;c;aa;ab;ac;bb;dddddddd").heaviest(), 807);
        checks.due("8 in the first slot", with("dddddddd;a;b;c").heaviest(), 800);
        checks.due("1 in the last slot", with(ROWS_OF_A).heaviest(), 107);
    }

    @Sentence(promise = 20, value = "NONE without patterns")
    void heaviestIsNoneWithoutPatterns() {
        FallingPatterns x = new FallingPatterns();
        checks.due("a new object", x.heaviest(), NONE);
        add(x, "a");
        checks.due("one", x.heaviest(), 100);
        x.remove(0);
        checks.due("none any more", x.heaviest(), NONE);
    }

    // ---- Promise 21: sharing

    @Sentence(promise = 21, value = "Returns the number of states but the state 0, as a double, "
            + "divided by the sum of the lengths of patterns")
    void sharingTellsHowMuchStatesAreShared() {
        checks.due("some are shared", with("ab;abcd;d").sharing(), 5.0 / 7.0);
        checks.due("nothing is shared", with("ab;cd").sharing(), 1.0);
        checks.due("one pattern", with("abcdabcd").sharing(), 1.0);
        checks.due("the most is shared", with(ROWS_OF_A).sharing(), 8.0 / 36.0);
        checks.due("8 letters but the last", with("abcdabca;abcdabcd").sharing(), 9.0 / 16.0);
    }

    @Sentence(promise = 21, value = "1.0 without patterns")
    void sharingIs1WithoutPatterns() {
        FallingPatterns x = new FallingPatterns();
        checks.due("a new object", x.sharing(), 1.0);
        add(x, "a;aa");
        checks.due("two", x.sharing(), 2.0 / 3.0);
        x.remove(0);
        x.remove(1);
        checks.due("none any more", x.sharing(), 1.0);
    }

    // ---- Promise 22: digest

    private void dueDigest(String what, Maker maker, String buffer) {
        checks.due(what, type(maker.make(), buffer).digest(), hashOf(maker, buffer));
    }

    /** The hash of a new object, its values written out. */
    @Sentence(promise = 22, value = "The hash starts at 2767.")
    void digestStartsAt2767() {
        StringBuilder values = new StringBuilder("0 1 0 0 0 -1 0 0 0 0 0");
        values.append(" 0 0 -1 -1 0 0 -1".repeat(8)).append(" 0 -1 -1 0 0 0 0 0 0");
        values.append(" 0 1 0 -1".repeat(4)).append(" 0 0 0 0 -1 ");
        values.append(Double.doubleToLongBits(1.0)).append(" 0");
        long hash = 2767;
        for (String value : values.toString().split(" ")) {
            hash = 31 * hash + Long.parseLong(value);
        }
        checks.due("a new object", new FallingPatterns().digest(), hash);
    }

    @Sentence(promise = 22, value = "For each value v of the following list, in order, the hash "
            + "becomes 31 * hash + v, in long arithmetic with overflow.")
    void digestOverflows() {
        dueDigest("a new object", FallingPatterns::new, "");
        dueDigest("behind a text", () -> behind("abcd;ab;d", "abdab"), "");
        dueDigest("the most states", WouldBeTests::withTheMostStates, "!~");
    }

    private static FallingPatterns withTheMostStates() {
        FallingPatterns x = with("aabcdabc;bbcdabcd;cbcdabcd;dbcdabcd;abbcdabc");
        add(x, "bcbcdabc;cdbcdabc;dabcdabc");
        return x;
    }

    @Sentence(promise = 22, value = "The values are: count(0) to count(9); setting")
    void digestHasCountsAndTheSetting() {
        for (int rule = 0; rule <= 2; rule++) {
            int set = rule;
            dueDigest("the rule " + rule, () -> withRule(set, "ab"), "");
            dueDigest("the rule " + rule, () -> {
                FallingPatterns x = withRule(set, "ab;b;aab");
                read(x, "ca2b2d");
                x.remove(1);
                return x;
            }, "");
        }
        dueDigest("6 are saved", Sentences::busiest, "ab");
    }

    @Sentence(promise = 22, value = "for each slot the properties 0 to 5 of the pattern, its "
            + "letters, and lettersTo")
    void digestHasPatterns() {
        dueDigest("all 8 slots", () -> behind(ROWS_OF_A, "a5"), "");
        dueDigest("some slots", () -> {
            FallingPatterns x = with(ROWS_OF_A);
            x.remove(0);
            x.remove(3);
            x.remove(7);
            return x;
        }, "");
        dueDigest("8 letters", () -> with("dcbadcba"), "");
        long last = with("dcbadcba").digest() - with("dcbadcbb").digest();
        checks.due("the last letter tells them apart", last != 0, true);
    }

    @Sentence(promise = 22, value = "for each state its properties 0 to 8; ifFed of each letter, "
            + "each with 0 to 3; ifRepeated of each letter 9 times; heaviest")
    void digestHasStatesAndWhatWouldBe() {
        String[] texts = {"a", "b9", "dcb", "abab", "c2d3"};
        for (int rule = 0; rule <= 2; rule++) {
            int set = rule;
            for (String text : texts) {
                dueDigest("rule " + rule + " behind " + text, () -> {
                    FallingPatterns x = withRule(set, "abab;b;bab;ddd;d;cc;aaaaaaaa");
                    read(x, text);
                    return x;
                }, "");
            }
        }
    }

    @Sentence(promise = 22, value = "the bits of sharing (as Double.doubleToLongBits)")
    void digestHasTheBitsOfSharing() {
        String[] rows = ROWS_OF_A.split(";");
        for (String row : rows) {
            for (String other : rows) {
                String some = row + ";" + other + ";d";
                dueDigest("sharing of " + some, () -> with(some), "");
                String more = some + ";aabb;aaaabb;aac";
                dueDigest("sharing of " + more, () -> with(more), "");
            }
        }
        dueDigest("the least", () -> with(ROWS_OF_A), "");
        dueDigest("the most", () -> with("abcdabcd;dcba"), "");
    }

    @Sentence(promise = 22, value = "the length of the buffer and each of its character codes")
    void digestHasTheBuffer() {
        String[] buffers = {"", "!", "~", "ab;c", "!~".repeat(30), "a".repeat(60), "a".repeat(59)};
        for (String buffer : buffers) {
            dueDigest("the buffer \"" + buffer + "\"", FallingPatterns::new, buffer);
        }
        FallingPatterns x = type(new FallingPatterns(), "~!");
        x.clearBuffer();
        checks.due("a cleared buffer", x.digest(), hashOf(FallingPatterns::new, ""));
    }
}
