import java.lang.reflect.InvocationTargetException;
import java.lang.reflect.Method;
import java.lang.reflect.Modifier;
import java.math.BigInteger;
import java.util.ArrayList;
import java.util.Arrays;
import java.util.Comparator;
import java.util.List;

/**
 * A class of tests that each stand for one sentence of the document. A test is a method that is
 * neither private nor static; it bears its sentence and makes objects of its own, so that no test
 * leans on another one.
 */
abstract class Sentences {

    static final Class<IllegalArgumentException> ARGUMENT = IllegalArgumentException.class;
    static final Class<IllegalStateException> STATE = IllegalStateException.class;
    static final Class<IndexOutOfBoundsException> INDEX = IndexOutOfBoundsException.class;
    static final int NONE = FallingPatterns.NONE;
    static final int MIN = Integer.MIN_VALUE;
    static final int MAX = Integer.MAX_VALUE;
    static final int[] NO_SLOTS = {-1, 8, MIN, MAX};
    static final int[] NO_LETTERS = {-1, 4, 'a', MIN, MAX};

    /** All eight end with one another: the most matches of one letter. */
    static final String ROWS_OF_A = "a;aa;aaa;aaaa;aaaaa;aaaaaa;aaaaaaa;aaaaaaaa";

    final Checks checks = new Checks();

    final void runAll() {
        Method[] methods = getClass().getDeclaredMethods();
        Arrays.sort(methods, Comparator.comparing(Method::getName));
        for (Method method : methods) {
            int modifiers = method.getModifiers();
            if (!Modifier.isStatic(modifiers) && !Modifier.isPrivate(modifiers)) {
                runOne(method);
            }
        }
        checks.end(getClass().getSimpleName());
    }

    private void runOne(Method method) {
        Sentence sentence = method.getAnnotation(Sentence.class);
        checks.about(method.getName() + " (" + (sentence == null ? "" : sentence.value()) + ")");
        checks.due("it bears its sentence", sentence != null, true);
        int looks = checks.looks();
        try {
            method.invoke(this);
        } catch (InvocationTargetException | IllegalAccessException e) {
            checks.due("it runs to its end", "" + e.getCause(), "null");
        }
        checks.due("it looks at something", checks.looks() > looks, true);
    }

    // ---- shorthands for runs of calls

    static FallingPatterns type(FallingPatterns x, String text) {
        for (int index = 0; index < text.length(); index++) {
            x.append(text.charAt(index));
        }
        return x;
    }

    static int add(FallingPatterns x, String patterns) {
        return type(x, patterns).add();
    }

    static int read(FallingPatterns x, String letters) {
        return type(x, letters).feedAll();
    }

    static FallingPatterns with(String patterns) {
        FallingPatterns x = new FallingPatterns();
        add(x, patterns);
        return x;
    }

    static FallingPatterns withRule(int rule, String patterns) {
        FallingPatterns x = with(patterns);
        x.rule(rule);
        return x;
    }

    /** A machine whose patterns are given and that has read the letters. */
    static FallingPatterns behind(String patterns, String letters) {
        FallingPatterns x = with(patterns);
        read(x, letters);
        return x;
    }

    /**
     * Has read so many letters a. Far ones need more than the 512 calls that an object is used
     * for, as 60 characters tell 270 letters at most: the limit of 9999 is out of their reach.
     */
    static FallingPatterns farBehind(String patterns, int letters) {
        FallingPatterns x = with(patterns);
        int left = letters;
        for (; left >= 270; left -= 270) {
            read(x, "a9".repeat(30));
        }
        for (; left > 0; left--) {
            x.feed(0);
        }
        return x;
    }

    // ---- shorthands for looks

    static String word(FallingPatterns x, int slot) {
        StringBuilder word = new StringBuilder();
        for (int place = 0; place < 8; place++) {
            int letter = x.letter(slot, place);
            word.append(letter == NONE ? "" : (char) ('a' + letter));
        }
        return word.toString();
    }

    static String words(FallingPatterns x) {
        StringBuilder words = new StringBuilder();
        for (int slot = 0; slot < 8; slot++) {
            words.append(slot == 0 ? "" : ",").append(word(x, slot));
        }
        return words.toString();
    }

    static String counts(FallingPatterns x) {
        StringBuilder counts = new StringBuilder();
        for (int what = 0; what <= 9; what++) {
            counts.append(what == 0 ? "" : " ").append(x.count(what));
        }
        return counts.toString();
    }

    /** One property of all states. */
    static String states(FallingPatterns x, int what) {
        StringBuilder told = new StringBuilder();
        for (int state = 0; state < x.count(1); state++) {
            told.append(state == 0 ? "" : " ").append(x.state(state, what));
        }
        return told.toString();
    }

    /** One property of all slots. */
    static String slots(FallingPatterns x, int what) {
        StringBuilder told = new StringBuilder();
        for (int slot = 0; slot < 8; slot++) {
            told.append(slot == 0 ? "" : " ").append(x.pattern(slot, what));
        }
        return told.toString();
    }

    /** What is told of all letters, if they were fed. */
    static String ifFed(FallingPatterns x, int what) {
        StringBuilder told = new StringBuilder();
        for (int letter = 0; letter < 4; letter++) {
            told.append(letter == 0 ? "" : " ").append(x.ifFed(letter, what));
        }
        return told.toString();
    }

    /** The length of the state. */
    static int lengthOfState(FallingPatterns x) {
        return x.state(x.count(2), 0);
    }

    // ---- looks at everything

    /** A change that is made to a machine, or that is refused. */
    interface Change {
        long on(FallingPatterns x);
    }

    /** Has patterns, a rule, letters, matches, falls, and as many saved as are 2 below the most. */
    static FallingPatterns busy() {
        FallingPatterns x = withRule(2, "ab;ba;bab;c");
        read(x, "d2bacabab");
        x.feed(0);
        return x;
    }

    /** The same, with as many saved as there can be. */
    static FallingPatterns busiest() {
        FallingPatterns x = busy();
        x.rule(1);
        x.rule(2);
        return x;
    }

    /** The change leaves a busy machine as if it had not been made, with the text in the buffer. */
    final void dueUnchanged(String what, String text, Change change) {
        FallingPatterns x = type(busy(), text);
        change.on(x);
        dueAlike(what, x, type(busy(), text));
        FallingPatterns full = type(busiest(), text);
        change.on(full);
        dueAlike(what + " with 6 saved", full, type(busiest(), text));
        FallingPatterns letters = type(busy(), text);
        change.on(letters);
        dueLetters(what, letters);
    }

    /** The call, which may need a text in the buffer, is saved as one and undone as one. */
    final void dueUndone(String what, String text, Change call) {
        FallingPatterns x = type(busy(), text);
        int saved = x.count(9);
        call.on(x);
        checks.due(what + ": saved", x.count(9), saved + 1);
        checks.due(what + ": undo", x.undo(), saved);
        x.clearBuffer();
        dueAlike(what, x, busy());
        FallingPatterns letters = type(busy(), text);
        call.on(letters);
        letters.undo();
        dueLetters(what, letters);
    }

    /** Only letters that were read make the state of a pattern that is added later. */
    final void dueLetters(String what, FallingPatterns x) {
        x.clearBuffer();
        add(x, "bacababa");
        checks.due(what + ": the latest 8 letters", lengthOfState(x), 8);
    }

    /** The call throws, and changes nothing. */
    final void dueRefused(String what, String text, Class<? extends RuntimeException> thrown,
            Change call) {
        dueUnchanged(what, text, x -> throwing(what, thrown, () -> call.on(x)));
    }

    private long throwing(String what, Class<? extends RuntimeException> thrown, Checks.Call call) {
        checks.dueThrow(what, thrown, call);
        return 0;
    }

    /**
     * Holds two machines against each other, in all that they tell and in all that undo brings
     * back. Both are used up by it.
     */
    final void dueAlike(String what, FallingPatterns x, FallingPatterns twin) {
        checks.due(what + ": the digest", x.digest(), twin.digest());
        checks.due(what + ": the patterns", words(x), words(twin));
        checks.due(what + ": the buffer", x.clearBuffer(), twin.clearBuffer());
        for (int left = twin.count(9); left >= 0; left--) {
            checks.due(what + ": undo", Checks.outcome(x::undo), Checks.outcome(twin::undo));
            checks.due(what + ": behind undo", x.digest(), twin.digest());
        }
    }

    /** Makes the same machine each time. */
    interface Maker {
        FallingPatterns make();
    }

    /**
     * The digest as its promise tells it, over what the other calls answer. Each part is asked of
     * a machine of its own, as one object is used for at most 512 calls.
     */
    static long hashOf(Maker maker, String buffer) {
        List<Long> values = new ArrayList<>();
        FallingPatterns x = maker.make();
        for (int what = 0; what <= 9; what++) {
            values.add((long) x.count(what));
        }
        values.add((long) x.setting());
        for (int slot = 0; slot < 8; slot++) {
            addPattern(values, maker.make(), slot);
        }
        for (int state = 0; state < x.count(1); state++) {
            FallingPatterns asked = maker.make();
            for (int what = 0; what <= 8; what++) {
                values.add((long) asked.state(state, what));
            }
        }
        addWhatWouldBe(values, maker.make());
        values.add((long) buffer.length());
        for (char code : buffer.toCharArray()) {
            values.add((long) code);
        }
        BigInteger hash = BigInteger.valueOf(2767);
        for (long value : values) {
            hash = hash.multiply(BigInteger.valueOf(31)).add(BigInteger.valueOf(value));
        }
        return hash.longValue();
    }

    private static void addPattern(List<Long> values, FallingPatterns x, int slot) {
        for (int what = 0; what <= 5; what++) {
            values.add((long) x.pattern(slot, what));
        }
        int length = x.pattern(slot, 0);
        for (int place = 0; place < length; place++) {
            values.add((long) x.letter(slot, place));
        }
        values.add((long) x.lettersTo(slot));
    }

    private static void addWhatWouldBe(List<Long> values, FallingPatterns x) {
        for (int letter = 0; letter < 4; letter++) {
            for (int what = 0; what <= 3; what++) {
                values.add((long) x.ifFed(letter, what));
            }
        }
        for (int letter = 0; letter < 4; letter++) {
            values.add((long) x.ifRepeated(letter, 9));
        }
        values.add((long) x.heaviest());
        values.add(Double.doubleToLongBits(x.sharing()));
    }
}
