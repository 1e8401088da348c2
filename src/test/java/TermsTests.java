/** What the document says ahead of its promises: "What it is", the constants and the terms. */
public final class TermsTests extends Sentences {

    public static void main(String[] args) {
        new TermsTests().runAll();
    }

    // ---- What it is; the constants

    @Sentence("An object is used for at most 512 calls after it has been made")
    void the512thCallIsAnswered() {
        FallingPatterns x = with("ab");
        for (int pair = 0; pair < 254; pair++) {
            x.feed(0);
            x.feed(1);
        }
        checks.due("the 512th call", x.count(4), 254);
        FallingPatterns y = behind(ROWS_OF_A, "a9b");
        long due = hashOf(() -> behind(ROWS_OF_A, "a9b"), "");
        for (int call = 49; call <= 512; call++) {
            checks.due("the digest in all calls up to the 512th", y.digest(), due);
        }
    }

    @Sentence("`NONE = -1`: There is nothing to return.")
    void noneIsMinus1() {
        checks.due("NONE", FallingPatterns.NONE, -1);
    }

    // ---- Letters, patterns, states

    @Sentence("The letters are a, b, c and d, told as 0 to 3.")
    void lettersAreToldAs0To3() {
        FallingPatterns x = with("abcd;a;d");
        for (int letter = 0; letter < 4; letter++) {
            checks.due("the letter of a pattern", x.letter(0, letter), letter);
            checks.due("the last letter of a state", x.state(x.pattern(0, 3), 1), 3);
        }
        checks.due("a fed as 0", x.feed(0), 1);
        checks.due("b fed as 1", x.feed(1), 0);
        checks.due("c fed as 2", x.feed(2), 0);
        checks.due("d fed as 3", x.feed(3), 2);
        checks.due("read as a text", read(x, "abcd"), 3);
    }

    @Sentence("There are 8 slots for patterns, numbered from 0, each empty or with a pattern")
    void slotsAre0To7() {
        FallingPatterns x = with("a;b;c;d;aa;ab;ac;ad");
        checks.due("all 8 with a pattern", words(x), "a,b,c,d,aa,ab,ac,ad");
        x.remove(0);
        x.remove(7);
        checks.due("the first and the last empty", words(x), ",b,c,d,aa,ab,ac,");
        checks.due("their lengths", slots(x, 0), "0 1 1 1 2 2 2 0");
    }

    @Sentence("a row of 1 to 8 letters")
    void patternsHave1To8Letters() {
        FallingPatterns x = with("d;abcdabcd");
        checks.due("1 letter and 8", words(x), "d,abcdabcd,,,,,,");
        type(x, "abcdabcda");
        checks.dueThrow("9 letters", ARGUMENT, x::add);
        x.clearBuffer();
        checks.dueThrow("no letters", ARGUMENT, x::add);
    }

    @Sentence("No two patterns are the same.")
    void noTwoPatternsAreTheSame() {
        FallingPatterns x = with("ab;ab;a");
        checks.due("twice in a text", words(x), "ab,a,,,,,,");
        checks.due("there already, and twice in a text", add(x, "b;a;b;ab;b"), 1);
        checks.due("there already, and twice in a text", words(x), "ab,a,b,,,,,");
        checks.due("longer ones are others", add(x, "abb;aab;abbbbbbb;abbbbbb"), 4);
    }

    @Sentence("A text is read letter by letter; its letters have places, numbered from 0.")
    void placesAreNumberedFrom0() {
        FallingPatterns x = with("a");
        x.feed(0);
        checks.due("the place of the first letter", x.pattern(0, 2), 0);
        checks.due("the place of the first letter", x.count(5), 0);
        read(x, "ba");
        checks.due("the place of the third letter", x.pattern(0, 2), 2);
        checks.due("the place of the third letter", x.count(5), 2);
    }

    @Sentence("A state is a row of letters with which some pattern begins: the empty row, and all "
            + "beginnings of patterns, whole patterns, too.")
    void statesAreTheBeginnings() {
        checks.due("the empty row alone", states(new FallingPatterns(), 0), "0");
        checks.due("one letter", states(with("c"), 0), "0 1");
        checks.due("whole patterns, too", states(with(ROWS_OF_A), 0), "0 1 2 3 4 5 6 7 8");
        checks.due("8 letters", states(with("abcdabcd"), 0), "0 1 2 3 4 5 6 7 8");
        checks.due("each once", states(with("ab;abc;b;abd"), 0), "0 1 1 2 3 3");
        FallingPatterns x = with("aabcdabc;bbcdabcd;cbcdabcd;dbcdabcd;abbcdabc");
        add(x, "bcbcdabc;cdbcdabc;dabcdabc");
        checks.due("the most states", x.count(1), 1 + 4 + 7 * 8);
        checks.due("the last one", x.state(60, 0), 8);
    }

    @Sentence("States are numbered from 0: the shorter one first")
    void shorterStatesComeFirst() {
        FallingPatterns x = with("d;cc;bbb;aaaa");
        checks.due("lengths", states(x, 0), "0 1 1 1 1 2 2 2 3 3 4");
        checks.due("a short one with late letters", x.pattern(0, 3), 4);
        checks.due("a long one with early letters", x.pattern(3, 3), 10);
        checks.due("the state behind the last letter", states(x, 1), "-1 0 1 2 3 0 1 2 0 1 0");
    }

    @Sentence("of those with the same length the one that comes first by its letters")
    void statesOfALengthAreOrderedByLetters() {
        FallingPatterns x = with("dddddddd;dddddddc;cddddddd;aaaaaaaa");
        checks.due("the last letter differs", x.pattern(0, 3), 25);
        checks.due("the last letter differs", x.pattern(1, 3), 24);
        checks.due("the first letter differs", x.pattern(2, 3), 23);
        checks.due("the first by its letters", x.pattern(3, 3), 22);
        FallingPatterns y = with("ba;ab;b;a;bb;aa");
        checks.due("of two letters", slots(y, 3), "5 4 2 1 6 3 -1 -1");
    }

    @Sentence("The state is the longest state that is an end of the text that was read")
    void theStateIsTheLongestEnd() {
        FallingPatterns x = with("abcdabcd;cdab;d");
        read(x, "abcdab");
        checks.due("the longest, not the shorter end", lengthOfState(x), 6);
        read(x, "cd");
        checks.due("the whole text", x.count(2), x.pattern(0, 3));
        x.feed(3);
        checks.due("the last letter alone", x.count(2), x.pattern(2, 3));
        read(x, "cdab");
        checks.due("4 letters of a longer text", x.count(2), x.pattern(1, 3));
    }

    @Sentence("(the empty row is always one)")
    void theEmptyRowIsAlwaysAnEnd() {
        FallingPatterns x = new FallingPatterns();
        checks.due("nothing was read, no patterns", x.count(2), 0);
        x.feed(0);
        checks.due("no patterns", x.count(2), 0);
        FallingPatterns y = with("ab");
        checks.due("nothing was read", y.count(2), 0);
        read(y, "abc");
        checks.due("no other end", y.count(2), 0);
    }

    @Sentence("It falls back to the longest shorter state that is an end of it")
    void fallsToTheLongestShorterEnd() {
        checks.due("one letter shorter", states(with("aaaaaaaa"), 2), "-1 0 1 2 3 4 5 6 7");
        checks.due("to the empty row", states(with("abcd"), 2), "-1 0 0 0 0");
        checks.due("the longest of several", states(with("abab;b;bab"), 2), "-1 0 0 2 1 4 3 6");
    }

    @Sentence("the state 0 falls back to none")
    void theState0FallsBackToNone() {
        checks.due("without patterns", new FallingPatterns().state(0, 2), NONE);
        FallingPatterns x = with("a;b;c;d");
        checks.due("with patterns", x.state(0, 2), NONE);
        x.remove(0);
        checks.due("behind remove", x.state(0, 2), NONE);
        checks.due("a letter falls once at most", x.ifFed(0, 1), 1);
    }

    @Sentence("When a letter is read, the machine goes from its state to the longest state that "
            + "is an end of that state with the letter behind it")
    void goesToTheLongestEnd() {
        FallingPatterns x = behind("aaaaaaaa", "a8");
        x.feed(0);
        checks.due("from a whole pattern to itself", x.count(2), 8);
        x.feed(1);
        checks.due("to the empty row", x.count(2), 0);
        FallingPatterns y = behind("abcdabcd;bcdabcda;da;a", "abcdabcd");
        y.feed(0);
        checks.due("to the longest of three", y.count(2), y.pattern(1, 3));
        y.feed(3);
        y.feed(0);
        checks.due("to the longest of two", y.count(2), y.pattern(2, 3));
        FallingPatterns z = behind("abc;cd;bcd", "abc");
        checks.due("to an end of the state with the letter", z.ifFed(3, 0), z.pattern(2, 3));
        z.feed(3);
        checks.due("to an end of the state with the letter", z.count(2), z.pattern(2, 3));
    }

    @Sentence("the falls of this letter are how many times it falls back until the letter can be "
            + "put behind and makes a state")
    void fallsUntilTheLetterCanBePutBehind() {
        FallingPatterns x = behind("aaaaaaaa;b", "a8");
        checks.due("no falls", x.count(6), 0);
        x.feed(0);
        checks.due("one fall", x.count(6), 1);
        checks.due("8 falls to the empty row", x.ifFed(1, 1), 8);
        x.feed(1);
        checks.due("8 falls to the empty row", x.count(6), 9);
        FallingPatterns y = behind("abab;ac;b", "aba");
        checks.due("by letter", ifFed(y, 1), "2 0 1 3");
    }

    @Sentence("1 more if it cannot even behind the empty row")
    void oneMoreFallBehindTheEmptyRow() {
        FallingPatterns x = new FallingPatterns();
        x.feed(0);
        checks.due("without patterns", x.count(6), 1);
        FallingPatterns y = behind("aaaaaaaa", "a8b");
        checks.due("8 falls and 1 more", y.count(6), 9);
        y.feed(1);
        checks.due("from the empty row", y.count(6), 10);
    }

    @Sentence("When a pattern is added or removed, the state becomes what it is by the patterns "
            + "then")
    void theStateBecomesWhatItIsByThePatternsThen() {
        FallingPatterns x = new FallingPatterns();
        read(x, "cab");
        add(x, "ab");
        checks.due("a longer state", x.count(2), 2);
        add(x, "cabd;aa");
        checks.due("a longer state", lengthOfState(x), 3);
        x.remove(1);
        checks.due("a shorter state", x.count(2), x.pattern(0, 3));
        add(x, "b");
        x.remove(0);
        checks.due("the shortest but the empty row", x.count(2), x.pattern(1, 3));
        x.remove(1);
        checks.due("the empty row", x.count(2), 0);
    }

    @Sentence("and by the latest 8 letters that were read since the text began")
    void theStateIsByTheLatest8Letters() {
        String[] texts = {"abcdabcd", "dabcdabcd", "abcdabcdabcd", "d9c9abcdabcd"};
        for (String text : texts) {
            FallingPatterns x = new FallingPatterns();
            read(x, text);
            add(x, "abcdabcd;bcdabcd");
            checks.due("8 letters of " + text, lengthOfState(x), 8);
        }
        FallingPatterns x = new FallingPatterns();
        for (int letter = 0; letter < 4; letter++) {
            x.feed(letter);
        }
        read(x, "ab");
        read(x, "cd");
        add(x, "abcdabcd");
        checks.due("8 letters, one call or another", lengthOfState(x), 8);
        FallingPatterns y = new FallingPatterns();
        read(y, "abcd");
        y.begin();
        read(y, "abcd");
        add(y, "abcdabcd");
        checks.due("since the text began", lengthOfState(y), 4);
        y.begin();
        add(y, "a;d");
        checks.due("since the text began", y.count(2), 0);
    }

    @Sentence("(all, if they are fewer)")
    void theStateIsByAllLettersIfTheyAreFewer() {
        String text = "abcdabc";
        for (int length = 0; length <= 7; length++) {
            FallingPatterns x = new FallingPatterns();
            for (int place = 0; place < length; place++) {
                x.feed(text.charAt(place) - 'a');
            }
            add(x, "abcdabcd");
            checks.due(length + " letters", lengthOfState(x), length);
        }
        FallingPatterns y = with("aaaaaaaa");
        checks.due("no letter is none before the text", y.count(2), 0);
        y.feed(0);
        add(y, "aa");
        checks.due("1 letter", lengthOfState(y), 1);
    }

    // ---- Matches

    @Sentence("A pattern matches at a place if the text that was read up to it, that letter "
            + "included, ends with the pattern")
    void matchesIfTheTextEndsWithThePattern() {
        FallingPatterns x = with("abcdabcd;bcd;a");
        checks.due("ahead of the last letter", read(x, "abcdabc"), 3);
        checks.due("the whole text, and an end of it", x.feed(3), 2);
        checks.due("an end of a longer text", read(with("cd"), "a9b9cd"), 1);
        checks.due("the text is too short", read(with("aab"), "ab"), 0);
        FallingPatterns y = with("ab");
        y.feed(0);
        y.begin();
        checks.due("a letter before the text", y.feed(1), 0);
    }

    @Sentence("and the pattern was there when this letter was read")
    void matchesIfThePatternWasThere() {
        FallingPatterns x = new FallingPatterns();
        read(x, "ab");
        add(x, "ab");
        checks.due("added behind the letter", x.count(4), 0);
        checks.due("added behind the letter", x.pattern(0, 1), 0);
        checks.due("added behind the letter", x.pattern(0, 2), NONE);
        FallingPatterns y = new FallingPatterns();
        y.feed(0);
        add(y, "ab");
        checks.due("added ahead of the last letter", y.feed(1), 1);
        y.feed(0);
        y.remove(0);
        checks.due("removed ahead of the last letter", y.feed(1), 0);
    }

    @Sentence("with setting 0 as 0: all of them")
    void ruleZeroCountsAll() {
        FallingPatterns x = with(ROWS_OF_A);
        checks.due("more and more", read(x, "a7"), 1 + 2 + 3 + 4 + 5 + 6 + 7);
        checks.due("all 8", x.feed(0), 8);
        checks.due("all 8 again, with overlap", x.feed(0), 8);
        checks.due("none", x.feed(1), 0);
        checks.due("by pattern", slots(x, 1), "9 8 7 6 5 4 3 2");
    }

    @Sentence("as 1: the longest one alone")
    void ruleOneCountsTheLongest() {
        FallingPatterns x = withRule(1, ROWS_OF_A);
        checks.due("one of each letter", read(x, "a9"), 9);
        checks.due("by pattern", slots(x, 1), "1 1 1 1 1 1 1 2");
        checks.due("none", x.feed(1), 0);
        FallingPatterns y = withRule(1, "cab;b;ab");
        read(y, "cab");
        checks.due("the longest, not the latest", slots(y, 1), "1 0 0 0 0 0 0 0");
        checks.due("overlap does not matter", read(withRule(1, "aa"), "a4"), 3);
    }

    @Sentence("as 2: the longest one that does not overlap the match that counted last")
    void ruleTwoCountsTheLongestApart() {
        FallingPatterns x = withRule(2, "aa;b;aab;ab");
        checks.due("one behind the other", read(x, "a5"), 2);
        checks.due("a shorter one, as longer ones overlap", x.feed(1), 1);
        checks.due("a shorter one, as the longest overlaps", slots(x, 1), "2 0 0 1 0 0 0 0");
        FallingPatterns y = withRule(2, "b;cab;ab");
        checks.due("the longest alone", read(y, "cab"), 1);
        checks.due("the longest, if none overlaps", slots(y, 1), "0 1 0 0 0 0 0 0");
    }

    @Sentence("by whatever rule")
    void ruleTwoLooksAtMatchesOfAllRules() {
        for (int rule = 0; rule <= 2; rule++) {
            FallingPatterns x = withRule(rule, "ab;ba");
            checks.due("counted by rule " + rule, read(x, "ab"), 1);
            x.rule(2);
            checks.due("overlaps a match by rule " + rule, x.feed(0), 0);
        }
        FallingPatterns y = withRule(2, "aa;ab");
        read(y, "a3");
        checks.due("overlaps a match that did not count", y.feed(1), 1);
    }

    @Sentence("it begins behind the place of that")
    void ruleTwoBeginsBehindThePlace() {
        FallingPatterns x = withRule(2, "aba");
        checks.due("the first", read(x, "aba"), 1);
        checks.due("begins at the place", read(x, "ba"), 0);
        checks.due("begins 2 behind the place", read(x, "ba"), 1);
        FallingPatterns y = withRule(2, "ab");
        checks.due("begins 1 behind the place", read(y, "ab2ab"), 2);
        FallingPatterns z = withRule(2, "d;dd");
        checks.due("one letter, 1 behind the place", read(z, "d4"), 4);
        checks.due("at the place 0, none counted", slots(z, 1), "4 0 0 0 0 0 0 0");
        FallingPatterns whole = withRule(2, "abcdabcd");
        checks.due("8 letters from the place 0", read(whole, "abcdabcd"), 1);
        checks.due("8 letters from the place 8", read(whole, "abcdabcd"), 1);
    }

    @Sentence("there may be none")
    void ruleTwoMayCountNone() {
        FallingPatterns x = withRule(2, "aa;ba");
        read(x, "a2");
        checks.due("none would", x.ifFed(0, 2), 0);
        checks.due("none would", x.ifFed(0, 3), NONE);
        checks.due("none does", x.feed(0), 0);
        checks.due("it is not counted", x.count(4), 1);
        checks.due("it is not the last", x.count(5), 1);
        checks.due("it is not counted for its pattern", slots(x, 1), "1 0 0 0 0 0 0 0");
        checks.due("it is not the latest", x.pattern(0, 2), 1);
    }

    @Sentence("A match that counts is counted for its pattern; its place is that of its last "
            + "letter.")
    void aMatchIsCountedForItsPattern() {
        FallingPatterns x = behind("bcd;d", "abcd");
        checks.due("counted", slots(x, 1), "1 1 0 0 0 0 0 0");
        checks.due("the place", slots(x, 2), "3 3 -1 -1 -1 -1 -1 -1");
        x.rule(1);
        read(x, "bcd");
        checks.due("only one that counts", slots(x, 1), "2 1 0 0 0 0 0 0");
        checks.due("only the place of one that counts", slots(x, 2), "6 3 -1 -1 -1 -1 -1 -1");
        checks.due("the place", x.count(5), 6);
    }

    // ---- Settings

    @Sentence("0: the rule for matches, 0 to 2, at first 0.")
    void theRuleIsAtFirst0() {
        FallingPatterns x = new FallingPatterns();
        checks.due("at first", x.setting(), 0);
        add(x, "a;aa");
        checks.due("all count at first", read(x, "a2"), 3);
        for (int rule = 0; rule <= 2; rule++) {
            x.rule(rule);
            checks.due("the rule", x.setting(), rule);
        }
    }

    @Sentence("Removing a pattern forgets its counts")
    void removingForgetsTheCounts() {
        FallingPatterns x = behind("ab;b", "ab2");
        x.remove(1);
        checks.due("in the empty slot", slots(x, 1), "1 0 0 0 0 0 0 0");
        checks.due("in the empty slot", slots(x, 2), "1 -1 -1 -1 -1 -1 -1 -1");
        add(x, "b");
        checks.due("of the same pattern, added again", x.pattern(1, 1), 0);
        checks.due("of the same pattern, added again", x.pattern(1, 2), NONE);
    }

    @Sentence("the match that counted last stays for the rule 2")
    void theMatchThatCountedLastStays() {
        FallingPatterns x = behind("ab;ba", "ab");
        x.remove(0);
        x.rule(2);
        checks.due("its place", x.count(5), 1);
        checks.due("overlaps a match of a removed one", x.feed(0), 0);
        checks.due("does not overlap it", read(x, "ba"), 1);
        FallingPatterns y = behind("b;ba", "ab");
        y.rule(2);
        y.remove(0);
        add(y, "b");
        checks.due("also if the pattern is added again", y.feed(0), 0);
    }

    // ---- Input text

    @Sentence("The buffer has at most 60 characters.")
    void theBufferHasAtMost60Characters() {
        FallingPatterns x = type(new FallingPatterns(), "a".repeat(59));
        checks.due("the 60th", x.append('a'), 60);
        checks.dueThrow("the 61st", STATE, () -> x.append('a'));
        checks.due("all 60 are read", x.feedAll(), 0);
        checks.due("all 60 are read", x.count(3), 60);
        type(x, "!".repeat(60));
        checks.dueThrow("the 61st again", STATE, () -> x.append('!'));
        checks.due("there are 60", x.clearBuffer(), 60);
    }

    @Sentence("Patterns as a text are one or more parts")
    void patternsAreOneOrMoreParts() {
        FallingPatterns x = new FallingPatterns();
        checks.dueThrow("no part", ARGUMENT, x::add);
        checks.due("one part", add(x, "ab"), 1);
        checks.due("30 parts", add(x, "d;".repeat(29) + "c"), 2);
        checks.due("the first part and the last", words(x), "ab,d,c,,,,,");
    }

    @Sentence("with \";\" between them")
    void patternsHaveSignsBetweenThem() {
        dueErrors(";a", 0, 0);
        dueErrors("a;;b", 2, 1);
        dueErrors("a,b", 1, 1);
        dueErrors("a:b", 1, 1);
        dueErrors("a;b", 3, 1);
        FallingPatterns x = type(new FallingPatterns(), "a;b;");
        checks.due("at the end more can come", x.firstError(true), 4);
        checks.dueThrow("at the end there is a part too few", ARGUMENT, x::add);
    }

    @Sentence("each a row of 1 to 8 letters \"a\" to \"d\"")
    void partsHave1To8LettersAToD() {
        dueErrors("abcdabcd", 8, 8);
        dueErrors("abcdabcda", 8, 9);
        dueErrors("a;abcdabcd;abcdabcda", 19, 1);
        dueErrors("a;abcdabcd;b", 12, 1);
        dueErrors("`", 0, 0);
        dueErrors("e", 0, 0);
        dueErrors("A", 0, 0);
        dueErrors("aD", 1, 1);
        dueErrors("abcde", 4, 4);
        dueErrors("ab`", 2, 2);
        checks.due("a to d, 1 and 8", add(new FallingPatterns(), "a;b;c;d;dddddddd"), 5);
    }

    @Sentence("Letters as a text are one or more parts")
    void lettersAreOneOrMoreParts() {
        FallingPatterns x = new FallingPatterns();
        checks.dueThrow("no part", ARGUMENT, x::feedAll);
        read(x, "c");
        checks.due("one part", x.count(3), 1);
        read(x, "abcd".repeat(15));
        checks.due("60 parts", x.count(3), 61);
    }

    @Sentence("each a letter, perhaps with a number behind it, 2 to 9")
    void partsOfLettersHaveANumber2To9() {
        dueErrors("a2", 1, 2);
        dueErrors("d9", 1, 2);
        dueErrors("a1", 1, 1);
        dueErrors("a0", 1, 1);
        dueErrors("a:", 1, 1);
        dueErrors("a/", 1, 1);
        dueErrors("2", 0, 0);
        dueErrors("9a", 0, 0);
        dueErrors("a22", 1, 2);
        dueErrors("b9c29", 1, 4);
        dueErrors("ab2c9d", 2, 6);
    }

    @Sentence("that tells how often")
    void theNumberTellsHowOften() {
        for (int times = 2; times <= 9; times++) {
            FallingPatterns x = with("b");
            checks.due("the letter " + times + " times", read(x, "ab" + times + "a"), times);
            checks.due("the letters with it", x.count(3), times + 2);
        }
        FallingPatterns most = with("b");
        checks.due("the most letters of a buffer", read(most, "b9".repeat(30)), 270);
    }

    @Sentence("The buffer is read from left to right; a character is a syntax error if no such "
            + "text, of any length, begins with the characters before it and this character.")
    void anErrorIsWhereNoTextBeginsSo() {
        dueErrors("", 0, 0);
        dueErrors("a;", 2, 1);
        dueErrors("!a!", 0, 0);
        dueErrors("a;b!c!;;", 3, 1);
        dueErrors("abcdabcd;".repeat(6) + "abcda;", 60, 8);
        dueErrors("abcdabcd;".repeat(6) + "abcdab", 60, 8);
        dueErrors("a9".repeat(30), 1, 60);
        dueErrors("a".repeat(60), 8, 60);
        dueErrors("a".repeat(59) + ";", 8, 59);
    }

    private void dueErrors(String text, int inPatterns, int inLetters) {
        FallingPatterns x = type(new FallingPatterns(), text);
        checks.due("the first error of patterns \"" + text + "\"", x.firstError(true), inPatterns);
        checks.due("the first error of letters \"" + text + "\"", x.firstError(false), inLetters);
        if (inPatterns < text.length()) {
            checks.dueThrow("add of \"" + text + "\"", ARGUMENT, x::add);
        }
        if (inLetters < text.length()) {
            checks.dueThrow("feedAll of \"" + text + "\"", ARGUMENT, x::feedAll);
        }
        checks.due("the buffer stays \"" + text + "\"", x.clearBuffer(), text.length());
    }

    // ---- Undo

    @Sentence("Each method that is marked \"undoable\" and does not throw an exception saves the "
            + "state of this object from before it")
    void undoableMethodsSaveTheState() {
        FallingPatterns x = new FallingPatterns();
        add(x, "ab;b");
        checks.due("add", x.count(9), 1);
        x.remove(1);
        checks.due("remove", x.count(9), 2);
        x.rule(1);
        checks.due("rule", x.count(9), 3);
        x.feed(0);
        checks.due("feed", x.count(9), 4);
        read(x, "b9");
        checks.due("feedAll, as one call", x.count(9), 5);
        x.begin();
        checks.due("begin", x.count(9), 6);
        String[] due = {"1 3 0 10 1 1 9 2 2 5", "1 3 1 1 0 -1 0 0 2 4", "1 3 0 0 0 -1 0 0 2 3",
            "1 3 0 0 0 -1 0 0 2 2", "2 4 0 0 0 -1 0 0 3 1", "0 1 0 0 0 -1 0 0 0 0"};
        for (String before : due) {
            x.undo();
            checks.due("from before it", counts(x), before);
        }
    }

    @Sentence("Each method that is marked \"undoable\"")
    void noOtherMethodSaves() {
        FallingPatterns x = behind("ab;b", "ab");
        Checks.Call[] others = {() -> x.append('a'), () -> x.firstError(true),
            () -> x.firstError(false), x::clearBuffer, () -> x.pattern(0, 1),
            () -> x.letter(0, 0), () -> x.state(0, 5), () -> x.count(9), x::setting,
            () -> x.ifFed(0, 0), () -> x.lettersTo(0), () -> x.ifRepeated(0, 200), x::heaviest,
            () -> (long) x.sharing(), x::digest};
        for (int index = 0; index < others.length; index++) {
            others[index].answer();
            checks.due("saved behind call " + index, x.count(9), 2);
        }
        x.undo();
        checks.due("undo saves nothing itself", x.count(9), 1);
    }

    @Sentence("(also if it changes nothing)")
    void aCallThatChangesNothingIsSaved() {
        FallingPatterns x = new FallingPatterns();
        x.rule(0);
        checks.due("rule, the same one", x.count(9), 1);
        x.begin();
        checks.due("begin of nothing", x.count(9), 2);
        add(x, "ab");
        add(x, "ab;ab");
        checks.due("add of none", x.count(9), 4);
        checks.due("undo of none", x.undo(), 3);
        checks.due("the pattern is there", x.count(0), 1);
        checks.due("undo of one", x.undo(), 2);
        checks.due("the pattern is gone", x.count(0), 0);
    }

    @Sentence("all, also what is counted so far")
    void undoBringsBackWhatIsCounted() {
        Change[] calls = {x -> x.remove(1), x -> add(x, "d"), x -> x.begin(), x -> x.rule(2),
            x -> x.feed(0), x -> read(x, "abcdb3")};
        for (int call = 0; call < calls.length; call++) {
            FallingPatterns x = withRule(1, "ab;b;cd");
            read(x, "ab2cd");
            calls[call].on(x);
            x.undo();
            checks.due("counts so far, " + call, counts(x), "3 6 5 5 3 4 3 2 5 3");
            checks.due("matches so far, " + call, slots(x, 1), "1 1 1 0 0 0 0 0");
            checks.due("places so far, " + call, slots(x, 2), "1 2 4 -1 -1 -1 -1 -1");
            checks.due("the rule, " + call, x.setting(), 1);
            checks.due("the patterns, " + call, words(x), "ab,b,cd,,,,,");
        }
    }

    @Sentence("all")
    void undoBringsBackTheLetters() {
        FallingPatterns x = new FallingPatterns();
        read(x, "abcdabcd");
        x.feed(0);
        x.undo();
        x.begin();
        x.undo();
        read(x, "d3");
        x.undo();
        add(x, "abcdabcd");
        checks.due("the letters", lengthOfState(x), 8);
    }

    @Sentence("but the buffer")
    void undoLeavesTheBuffer() {
        FallingPatterns x = new FallingPatterns();
        type(x, "ab").feed(0);
        type(x, "c").undo();
        checks.due("what was appended stays", x.clearBuffer(), 3);
        x.feed(0);
        type(x, "ab").clearBuffer();
        x.undo();
        checks.due("what was cleared stays so", x.clearBuffer(), 0);
        add(x, "ab");
        x.undo();
        checks.due("what was added does not come back", x.clearBuffer(), 0);
        read(x, "ab");
        type(x, "cd;").undo();
        checks.due("what was read does not come back", x.clearBuffer(), 3);
    }

    @Sentence("and the saved ones")
    void undoLeavesTheSavedOnes() {
        FallingPatterns x = new FallingPatterns();
        x.rule(1);
        x.rule(2);
        x.rule(0);
        checks.due("one less", x.undo(), 2);
        checks.due("the latest", x.setting(), 2);
        checks.due("one less again", x.undo(), 1);
        checks.due("the one before it", x.setting(), 1);
        checks.due("none is left", x.undo(), 0);
        checks.due("the first", x.setting(), 0);
        checks.dueThrow("none comes back", STATE, x::undo);
    }

    @Sentence("At most 6 are saved")
    void atMost6AreSaved() {
        FallingPatterns x = new FallingPatterns();
        int[] due = {1, 2, 3, 4, 5, 6, 6, 6};
        for (int saved : due) {
            x.feed(0);
            checks.due("saved", x.count(9), saved);
        }
        for (int left = 5; left >= 0; left--) {
            checks.due("undo", x.undo(), left);
        }
        checks.dueThrow("a seventh undo", STATE, x::undo);
    }

    @Sentence("the oldest one is dropped first")
    void theOldestOneIsDroppedFirst() {
        for (int letters = 6; letters <= 20; letters++) {
            FallingPatterns x = new FallingPatterns();
            for (int letter = 0; letter < letters; letter++) {
                x.feed(0);
            }
            for (int left = 5; left >= 0; left--) {
                x.undo();
                checks.due("the latest ones are kept", x.count(3), letters - 6 + left);
            }
        }
    }

    @Sentence("the oldest one is dropped first")
    void theOldestOneIsDroppedFirstBehindUndo() {
        FallingPatterns x = new FallingPatterns();
        int read = 0;
        for (int round = 0; round < 9; round++) {
            for (int letter = 0; letter < 7; letter++) {
                x.feed(0);
                read++;
            }
            for (int times = 0; times < 4; times++) {
                x.undo();
                read--;
                checks.due("read in round " + round, x.count(3), read);
            }
            checks.due("left in round " + round, x.count(9), 2);
        }
        x.undo();
        x.undo();
        checks.due("the oldest that is left", x.count(3), read - 2);
        checks.dueThrow("no more", STATE, x::undo);
    }

    // ---- Exceptions

    @Sentence("A call that throws an exception changes nothing.")
    void aCallThatThrowsChangesNothing() {
        dueRefused("add of a text that is not complete", "ab;", ARGUMENT, x -> x.add());
        dueRefused("add of a text with an error", "ab;e", ARGUMENT, x -> x.add());
        dueRefused("add of too many", "aa;bb;cc;dd;ad", STATE, x -> x.add());
        dueRefused("remove of no slot", "ab", INDEX, x -> x.remove(8));
        dueRefused("remove of an empty slot", "ab", STATE, x -> x.remove(7));
        dueRefused("rule", "ab", ARGUMENT, x -> x.rule(3));
        dueRefused("feed", "ab", ARGUMENT, x -> x.feed(4));
        dueRefused("feedAll of no letters", "", ARGUMENT, x -> x.feedAll());
        dueRefused("feedAll with an error behind letters", "ab9e", ARGUMENT, x -> x.feedAll());
        dueRefused("append of no character", "ab", ARGUMENT, x -> x.append(32));
        dueRefused("append of too many", "ab".repeat(30), STATE, x -> x.append('a'));
        dueRefused("pattern of no slot", "ab", INDEX, x -> x.pattern(8, 0));
        dueRefused("pattern of no property", "ab", ARGUMENT, x -> x.pattern(0, 6));
        dueRefused("letter of no slot", "ab", INDEX, x -> x.letter(8, 0));
        dueRefused("letter of no place", "ab", ARGUMENT, x -> x.letter(0, 8));
        dueRefused("state of no state", "ab", INDEX, x -> x.state(99, 0));
        dueRefused("state of no property", "ab", ARGUMENT, x -> x.state(0, 9));
        dueRefused("count", "ab", ARGUMENT, x -> x.count(10));
        dueRefused("ifFed of no letter", "ab", ARGUMENT, x -> x.ifFed(4, 0));
        dueRefused("ifFed of no number", "ab", ARGUMENT, x -> x.ifFed(0, 4));
        dueRefused("lettersTo", "ab", INDEX, x -> x.lettersTo(8));
        dueRefused("ifRepeated of no letter", "ab", ARGUMENT, x -> x.ifRepeated(4, 1));
        dueRefused("ifRepeated too often", "ab", ARGUMENT, x -> x.ifRepeated(0, 201));
    }

    @Sentence("A call that throws an exception changes nothing.")
    void anUndoThatThrowsChangesNothing() {
        FallingPatterns x = type(busyWithNoneSaved(), "ab");
        checks.dueThrow("undo of none", STATE, x::undo);
        dueAlike("undo of none", x, type(busyWithNoneSaved(), "ab"));
        FallingPatterns letters = busyWithNoneSaved();
        checks.dueThrow("undo of none", STATE, letters::undo);
        dueLetters("undo of none", letters);
    }

    private static FallingPatterns busyWithNoneSaved() {
        FallingPatterns x = busy();
        for (int time = 0; time < 6; time++) {
            x.rule(0);
        }
        for (int time = 0; time < 6; time++) {
            x.undo();
        }
        return x;
    }

    @Sentence("A call that throws an exception changes nothing.")
    void aCallThatThrowsForTooManyLettersChangesNothing() {
        FallingPatterns x = type(farBehind("a;aa", 9999), "b2");
        checks.dueThrow("feed of too many", STATE, () -> x.feed(1));
        checks.dueThrow("feedAll of too many", STATE, x::feedAll);
        dueAlike("too many letters", x, type(farBehind("a;aa", 9999), "b2"));
    }

    @Sentence("If several exceptions apply, the one that is named first in the throws clause is "
            + "thrown.")
    void theExceptionThatIsNamedFirstIsThrown() {
        FallingPatterns x = with("a;b;c;d;aa;bb;cc;dd");
        type(x, "ab;");
        checks.dueThrow("add: not complete, and too many", ARGUMENT, x::add);
        type(x, "!".repeat(57));
        checks.dueThrow("append: the code, and too many", ARGUMENT, () -> x.append(127));
        checks.dueThrow("append: the code, and too many", ARGUMENT, () -> x.append(32));
        checks.dueThrow("remove: no slot, which is empty", INDEX, () -> x.remove(8));
        checks.dueThrow("remove: no slot, which is empty", INDEX, () -> x.remove(-1));
        checks.dueThrow("pattern: the slot, and what", INDEX, () -> x.pattern(8, 6));
        checks.dueThrow("letter: the slot, and the place", INDEX, () -> x.letter(-1, -1));
        checks.dueThrow("state: the state, and what", INDEX, () -> x.state(-1, 9));
        FallingPatterns far = farBehind("a", 9999);
        checks.dueThrow("feed: the letter, and too many", ARGUMENT, () -> far.feed(4));
        type(far, "a9;");
        checks.dueThrow("feedAll: not complete, and too many", ARGUMENT, far::feedAll);
    }
}
