/** Promises 12 to 16: the calls under "looks; nothing is changed". */
public final class LooksTests extends Sentences {

    public static void main(String[] args) {
        new LooksTests().runAll();
    }

    @Sentence("looks; nothing is changed")
    void nothingIsChanged() {
        dueUnchanged("pattern", "ab", x -> x.pattern(0, 3) + x.pattern(7, 2));
        dueUnchanged("letter", "ab", x -> x.letter(0, 0) + x.letter(7, 7));
        dueUnchanged("state", "ab", x -> x.state(1, 2) + x.state(0, 8));
        dueUnchanged("count", "ab", x -> x.count(0) + x.count(9));
        dueUnchanged("setting", "ab", x -> x.setting());
    }

    // ---- Promise 12: pattern

    @Sentence(promise = 12, value = "0: its length, 0 if the slot is empty")
    void patternTellsItsLength() {
        checks.due("1 to 8", slots(with(ROWS_OF_A), 0), "1 2 3 4 5 6 7 8");
        FallingPatterns x = with("abc;d");
        x.remove(0);
        checks.due("empty slots", slots(x, 0), "0 1 0 0 0 0 0 0");
    }

    @Sentence(promise = 12, value = "1: matches of it that were counted")
    void patternTellsItsMatches() {
        FallingPatterns x = behind("ab;b;c", "ab");
        checks.due("one, one and none", slots(x, 1), "1 1 0 0 0 0 0 0");
        x.rule(1);
        x.feed(1);
        read(x, "ab");
        checks.due("only those that were counted", slots(x, 1), "2 2 0 0 0 0 0 0");
        x.begin();
        checks.due("none since the text began", slots(x, 1), "0 0 0 0 0 0 0 0");
    }

    @Sentence(promise = 12, value = "2: the place of the latest one")
    void patternTellsTheLatestPlace() {
        FallingPatterns x = behind("a;ba", "a");
        checks.due("the place 0", x.pattern(0, 2), 0);
        read(x, "b9a");
        checks.due("the latest, not the first", x.pattern(0, 2), 10);
        x.rule(1);
        read(x, "ba");
        checks.due("only of one that was counted", slots(x, 2), "10 12 -1 -1 -1 -1 -1 -1");
    }

    @Sentence(promise = 12, value = "NONE without one")
    void patternTellsNoneWithoutAMatch() {
        FallingPatterns x = behind("ab;b", "a");
        checks.due("no match", slots(x, 2), "-1 -1 -1 -1 -1 -1 -1 -1");
        x.feed(1);
        x.begin();
        checks.due("no match since the text began", slots(x, 2), "-1 -1 -1 -1 -1 -1 -1 -1");
        read(x, "ab");
        x.remove(1);
        checks.due("removed", slots(x, 2), "1 -1 -1 -1 -1 -1 -1 -1");
        x.undo();
        x.undo();
        checks.due("undone", slots(x, 2), "-1 -1 -1 -1 -1 -1 -1 -1");
    }

    @Sentence(promise = 12, value = "3: its state, NONE if the slot is empty")
    void patternTellsItsState() {
        FallingPatterns x = with("ab;b;abab;a");
        checks.due("states", slots(x, 3), "3 2 5 1 -1 -1 -1 -1");
        x.remove(1);
        checks.due("behind remove", slots(x, 3), "2 -1 4 1 -1 -1 -1 -1");
        checks.due("8 letters", slots(with("abcdabcd;ddddddda"), 3), "15 16 -1 -1 -1 -1 -1 -1");
        checks.due("a new object", new FallingPatterns().pattern(0, 3), NONE);
    }

    @Sentence(promise = 12, value = "4: other patterns that are part of it")
    void patternTellsItsParts() {
        FallingPatterns x = with("abcd;ab;bc;cd;ac;abcda");
        checks.due("at its beginning, inside, at its end", x.pattern(0, 4), 3);
        checks.due("none, not even itself", x.pattern(4, 4), 0);
        checks.due("no longer ones", x.pattern(1, 4), 0);
        checks.due("all 7", slots(with(ROWS_OF_A), 4), "0 1 2 3 4 5 6 7");
        checks.due("each once", with("abababab;ab").pattern(0, 4), 1);
        checks.due("of the same length", slots(with("ab;ba"), 4), "0 0 0 0 0 0 0 0");
        FallingPatterns y = with("abcdabcd;abcdabc;bcdabcd;bcdabc;bcdabd");
        checks.due("7 letters, and 6", slots(y, 4), "3 1 1 0 0 0 0 0");
    }

    @Sentence(promise = 12, value = "5: other patterns of which it is part")
    void patternTellsOfWhatItIsPart() {
        FallingPatterns x = with("b;bcc;abc;ccb;aca;ab");
        checks.due("at the beginning, inside, at the end", x.pattern(0, 5), 4);
        checks.due("none, not even itself", x.pattern(4, 5), 0);
        checks.due("all 7", slots(with(ROWS_OF_A), 5), "7 6 5 4 3 2 1 0");
        checks.due("each once", with("abababab;ab").pattern(1, 5), 1);
        checks.due("of the same length", slots(with("ab;ba"), 5), "0 0 0 0 0 0 0 0");
    }

    @Sentence(promise = 12, value = "0 for 1, 4 and 5 if the slot is empty")
    void patternTells0IfTheSlotIsEmpty() {
        FallingPatterns x = behind("ab;b;cabd", "cabd");
        x.remove(0);
        for (int what : new int[] {1, 4, 5}) {
            checks.due("removed, " + what, x.pattern(0, what), 0);
            checks.due("never with a pattern, " + what, x.pattern(7, what), 0);
            checks.due("a new object, " + what, new FallingPatterns().pattern(0, what), 0);
        }
        checks.due("an empty slot is no part of others", x.pattern(2, 4), 1);
        checks.due("others are no part of an empty slot", x.pattern(1, 5), 1);
    }

    @Sentence(promise = 12, value = "Throws `IndexOutOfBoundsException` if there is no such slot")
    void patternThrowsIfThereIsNoSuchSlot() {
        FallingPatterns x = with("a;b;c;d;aa;bb;cc;dd");
        for (int slot : NO_SLOTS) {
            for (int what = -1; what <= 6; what++) {
                int asked = what;
                checks.dueThrow("pattern " + slot + " " + what, INDEX,
                        () -> x.pattern(slot, asked));
            }
        }
        checks.due("the last slot", x.pattern(7, 0), 2);
    }

    @Sentence(promise = 12, value = "Throws `IllegalArgumentException` if what is not 0 to 5")
    void patternThrowsIfWhatIsNot0To5() {
        FallingPatterns x = with("ab");
        for (int what : new int[] {-1, 6, MIN, MAX}) {
            checks.dueThrow("what " + what, ARGUMENT, () -> x.pattern(0, what));
            checks.dueThrow("what " + what + " of an empty slot", ARGUMENT,
                    () -> x.pattern(7, what));
        }
        checks.due("the last one", x.pattern(0, 5), 0);
    }

    // ---- Promise 13: letter

    @Sentence(promise = 13, value = "Returns the letter")
    void letterReturnsTheLetter() {
        FallingPatterns x = with("dcba;abcdabcd");
        int[] first = {3, 2, 1, 0};
        for (int place = 0; place < 4; place++) {
            checks.due("of 4 letters", x.letter(0, place), first[place]);
        }
        for (int place = 0; place < 8; place++) {
            checks.due("of 8 letters", x.letter(1, place), place % 4);
        }
    }

    @Sentence(promise = 13, value = "NONE if there are not so many")
    void letterReturnsNoneIfThereAreNotSoMany() {
        FallingPatterns x = with(ROWS_OF_A);
        for (int slot = 0; slot < 8; slot++) {
            for (int place = 0; place < 8; place++) {
                checks.due("place " + place + " of " + (slot + 1), x.letter(slot, place),
                        place <= slot ? 0 : NONE);
            }
        }
        x.remove(7);
        checks.due("an empty slot", x.letter(7, 0), NONE);
        checks.due("a new object", new FallingPatterns().letter(0, 0), NONE);
    }

    @Sentence(promise = 13, value = "Throws `IndexOutOfBoundsException` if there is no such slot")
    void letterThrowsIfThereIsNoSuchSlot() {
        FallingPatterns x = with("a;b;c;d;aa;bb;cc;dd");
        for (int slot : NO_SLOTS) {
            checks.dueThrow("slot " + slot, INDEX, () -> x.letter(slot, 0));
            checks.dueThrow("slot " + slot + ", no place", INDEX, () -> x.letter(slot, 8));
            checks.dueThrow("slot " + slot + ", no place", INDEX, () -> x.letter(slot, -1));
        }
        checks.due("the first slot", x.letter(0, 0), 0);
        checks.due("the last slot", x.letter(7, 1), 3);
    }

    @Sentence(promise = 13, value = "Throws `IllegalArgumentException` if place is out of range")
    void letterThrowsIfThePlaceIsOutOfRange() {
        FallingPatterns x = with("abcdabcd");
        for (int place : new int[] {-1, 8, MIN, MAX}) {
            checks.dueThrow("place " + place, ARGUMENT, () -> x.letter(0, place));
            checks.dueThrow("place " + place + " of an empty slot", ARGUMENT,
                    () -> x.letter(7, place));
        }
        checks.due("the first place", x.letter(0, 0), 0);
        checks.due("the last place", x.letter(0, 7), 3);
    }

    // ---- Promise 14: state

    @Sentence(promise = 14, value = "0: its length")
    void stateTellsItsLength() {
        checks.due("lengths", states(with("abab;b;bab"), 0), "0 1 1 2 2 3 3 4");
        checks.due("without patterns", states(new FallingPatterns(), 0), "0");
        checks.due("0 to 8", states(with("aaaaaaaa"), 0), "0 1 2 3 4 5 6 7 8");
    }

    @Sentence(promise = 14, value = "1: its last letter, NONE for the state 0")
    void stateTellsItsLastLetter() {
        checks.due("last letters", states(with("abab;b;bab"), 1), "-1 0 1 1 0 0 1 1");
        checks.due("without patterns", states(new FallingPatterns(), 1), "-1");
        checks.due("8 letters", states(with("aaaaaaad"), 1), "-1 0 0 0 0 0 0 0 3");
    }

    @Sentence(promise = 14, value = "2: the state to which it falls back, NONE for the state 0")
    void stateTellsToWhichItFallsBack() {
        checks.due("fall back", states(with("abab;b;bab"), 2), "-1 0 0 2 1 4 3 6");
        checks.due("without patterns", states(new FallingPatterns(), 2), "-1");
        checks.due("8 letters", states(with("abcdabcd"), 2), "-1 0 0 0 0 1 2 3 4");
    }

    @Sentence(promise = 14, value = "3: patterns that end with it, as a mask of their slots: "
            + "those that are an end of it")
    void stateTellsThePatternsThatEndWithIt() {
        checks.due("masks", states(with("abab;b;bab"), 3), "0 0 2 2 0 0 6 7");
        checks.due("all 8", states(with(ROWS_OF_A), 3), "0 1 3 7 15 31 63 127 255");
        checks.due("without patterns", states(new FallingPatterns(), 3), "0");
        FallingPatterns x = with("a;b;c;d;aa;bb;cc;dd");
        checks.due("the last slot", x.state(x.pattern(7, 3), 3), 128 + 8);
        x.remove(3);
        checks.due("by slot, behind remove", x.state(x.pattern(7, 3), 3), 128);
    }

    @Sentence(promise = 14, value = "4: patterns that begin with it")
    void stateTellsThePatternsThatBeginWithIt() {
        checks.due("begin", states(with("abab;b;bab"), 4), "3 1 2 1 1 1 1 1");
        checks.due("all 8", states(with(ROWS_OF_A), 4), "8 8 7 6 5 4 3 2 1");
        checks.due("without patterns", states(new FallingPatterns(), 4), "0");
    }

    @Sentence(promise = 14, value = "5 to 8: the state to which the letter 0 to 3 leads")
    void stateTellsToWhichLettersLead() {
        FallingPatterns x = with("abab;b;bab;d");
        checks.due("a", states(x, 5), "1 1 5 1 6 1 1 6 6");
        checks.due("b", states(x, 6), "2 4 2 2 2 7 8 2 2");
        checks.due("c", states(x, 7), "0 0 0 0 0 0 0 0 0");
        checks.due("d", states(x, 8), "3 3 3 3 3 3 3 3 3");
        FallingPatterns y = with("aaaaaaaa");
        checks.due("a whole pattern to itself", y.state(8, 5), 8);
        checks.due("a whole pattern to the empty row", y.state(8, 8), 0);
        for (int what = 5; what <= 8; what++) {
            checks.due("without patterns", new FallingPatterns().state(0, what), 0);
        }
    }

    @Sentence(promise = 14, value = "Throws `IndexOutOfBoundsException` if there is no such state")
    void stateThrowsIfThereIsNoSuchState() {
        FallingPatterns x = with("ab;ba");
        for (int state : new int[] {-1, 5, 6, MIN, MAX}) {
            for (int what = -1; what <= 9; what++) {
                int asked = what;
                checks.dueThrow("state " + state, INDEX, () -> x.state(state, asked));
            }
        }
        checks.due("the last one", x.state(4, 0), 2);
        x.remove(1);
        checks.dueThrow("no more behind remove", INDEX, () -> x.state(3, 0));
        checks.due("the last one behind remove", x.state(2, 0), 2);
        checks.dueThrow("a new object", INDEX, () -> new FallingPatterns().state(1, 0));
    }

    @Sentence(promise = 14, value = "Throws `IllegalArgumentException` if what is not 0 to 8")
    void stateThrowsIfWhatIsNot0To8() {
        FallingPatterns x = with("ab");
        for (int what : new int[] {-1, 9, MIN, MAX}) {
            checks.dueThrow("what " + what, ARGUMENT, () -> x.state(0, what));
            checks.dueThrow("what " + what, ARGUMENT, () -> x.state(2, what));
        }
        checks.due("the last one", x.state(2, 8), 0);
    }

    // ---- Promise 15: count

    private void dueCount(int what, String due, FallingPatterns... all) {
        StringBuilder told = new StringBuilder();
        for (FallingPatterns x : all) {
            told.append(told.length() == 0 ? "" : " ").append(x.count(what));
        }
        checks.due("count " + what, told.toString(), due);
    }

    @Sentence(promise = 15, value = "0: patterns")
    void countTellsPatterns() {
        FallingPatterns x = with("a;b;c");
        x.remove(0);
        dueCount(0, "0 1 8 2", new FallingPatterns(), with("a"), with(ROWS_OF_A), x);
    }

    @Sentence(promise = 15, value = "1: states")
    void countTellsStates() {
        FallingPatterns x = with("abc;b");
        x.remove(0);
        dueCount(1, "1 9 9 2 11", new FallingPatterns(), with("abcdabcd"), with(ROWS_OF_A), x,
                with("aaaaa;bbbbb"));
    }

    @Sentence(promise = 15, value = "2: the state")
    void countTellsTheState() {
        FallingPatterns x = behind("abcdabcd", "abcdabcd");
        dueCount(2, "0 0 8 0", new FallingPatterns(), with("abc"), x, behind("ab", "abc"));
    }

    @Sentence(promise = 15, value = "3: letters that were read since the text began")
    void countTellsLetters() {
        FallingPatterns x = behind("a", "ab9");
        x.begin();
        dueCount(3, "0 10 0 270", new FallingPatterns(), behind("a", "ab9"), x,
                behind("a", "d9".repeat(30)));
        x.feed(0);
        dueCount(3, "1", x);
    }

    @Sentence(promise = 15, value = "4: matches that were counted since then, also of patterns "
            + "that were removed")
    void countTellsMatches() {
        FallingPatterns x = behind("ab;b", "ab2");
        dueCount(4, "0 3 0", new FallingPatterns(), x, behind("ab", "a"));
        x.remove(1);
        x.remove(0);
        dueCount(4, "3", x);
        add(x, "b");
        x.feed(1);
        dueCount(4, "4", x);
        x.begin();
        dueCount(4, "0", x);
    }

    @Sentence(promise = 15, value = "5: the place of the match that counted last, NONE without one")
    void countTellsThePlaceOfTheLastMatch() {
        FallingPatterns x = behind("a;b", "a");
        dueCount(5, "-1 0 -1", new FallingPatterns(), x, behind("ab", "a9"));
        read(x, "cb");
        dueCount(5, "2", x);
        x.feed(3);
        dueCount(5, "2", x);
        x.remove(1);
        dueCount(5, "2", x);
        x.begin();
        dueCount(5, "-1", x);
    }

    @Sentence(promise = 15, value = "6: falls of all letters since then")
    void countTellsFalls() {
        FallingPatterns x = behind("aaaa", "a4b2");
        dueCount(6, "0 0 6", new FallingPatterns(), behind("aaaa", "a4"), x);
        x.remove(0);
        dueCount(6, "6", x);
        x.begin();
        dueCount(6, "0", x);
    }

    @Sentence(promise = 15, value = "7: the most falls of one letter since then")
    void countTellsTheMostFalls() {
        FallingPatterns x = behind("aaaaaaaa", "a8b");
        dueCount(7, "0 0 9 1", new FallingPatterns(), behind("aaaa", "a4"), x,
                behind("aaaa", "b2"));
        x.feed(1);
        dueCount(7, "9", x);
        x.begin();
        x.feed(1);
        dueCount(7, "1", x);
    }

    @Sentence(promise = 15, value = "8: the sum of the lengths of patterns")
    void countTellsTheSumOfLengths() {
        FallingPatterns x = with("abc;d");
        x.remove(0);
        FallingPatterns most = with("aaaaaaaa;bbbbbbbb;cccccccc;dddddddd");
        add(most, "aaaabbbb;bbbbcccc;ccccdddd;ddddaaaa");
        dueCount(8, "0 36 1 64", new FallingPatterns(), with(ROWS_OF_A), x, most);
    }

    @Sentence(promise = 15, value = "9: how many are saved")
    void countTellsHowManyAreSaved() {
        FallingPatterns x = behind("a", "a");
        dueCount(9, "0 1 2", new FallingPatterns(), with("a"), x);
        x.undo();
        dueCount(9, "1", x);
        for (int letter = 0; letter < 9; letter++) {
            x.feed(0);
        }
        dueCount(9, "6", x);
    }

    @Sentence(promise = 15, value = "Throws `IllegalArgumentException` if what is not 0 to 9")
    void countThrowsIfWhatIsNot0To9() {
        FallingPatterns x = with("ab");
        for (int what : new int[] {-1, 10, MIN, MAX}) {
            checks.dueThrow("what " + what, ARGUMENT, () -> x.count(what));
        }
        checks.due("0 to 9", counts(x), "1 3 0 0 0 -1 0 0 2 1");
    }

    // ---- Promise 16: setting

    @Sentence(promise = 16, value = "Returns setting 0.")
    void settingReturnsTheRule() {
        FallingPatterns x = new FallingPatterns();
        checks.due("at first", x.setting(), 0);
        x.rule(1);
        checks.due("set", x.setting(), 1);
        x.rule(2);
        checks.due("set again", x.setting(), 2);
        x.begin();
        checks.due("behind begin", x.setting(), 2);
        x.undo();
        x.undo();
        checks.due("behind undo", x.setting(), 1);
    }
}
