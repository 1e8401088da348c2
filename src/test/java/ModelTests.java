/** Seeded runs of as many calls as an object is used for, each answer held against the model's. */
public final class ModelTests {

    private static final int RUNS = 800;
    private static final int CALLS = 512;
    private static final String[] PARTS = {
        "a", "b", "c", "d", "aa", "ab", "ba", "aba", "abab", "abcd", "bcd", "cd", "aaaa",
        "aaaaaaaa", "abababab", "abcdabcd", "dcba", "dcbadcba", "bbbb", "cab", "abcab", "dddddddd"};
    private static final String[] ODD = {
        "", ";", "a;", ";a", "a;;b", "aaaaaaaaa", "abcdabcda;b", "a1", "a0", "2", "a22", "A", "e",
        "a2;b", "b9c", "~", "!", "a;b3", "`", "a:"};

    private final Checks checks = new Checks();
    private long seed;
    private FallingPatterns real;
    private Model model;
    private StringBuilder past;
    private int calls;

    public static void main(String[] args) {
        ModelTests tests = new ModelTests();
        for (int run = 0; run < RUNS && tests.checks.wrong() == 0; run++) {
            tests.run(run);
        }
        tests.checks.end("ModelTests");
    }

    /** The next number of a fixed row of numbers, from 0 to below the bound. */
    private int next(int bound) {
        seed = seed * 6364136223846793005L + 1442695040888963407L;
        return (int) ((seed >>> 33) % bound);
    }

    private void run(int number) {
        seed = number * 7919L + 17;
        real = new FallingPatterns();
        model = new Model();
        past = new StringBuilder("run " + number + ":");
        calls = 0;
        while (calls < CALLS && checks.wrong() == 0) {
            step(number % 3);
            if (number % 10 == 0 || next(8) == 0) {
                look();
            }
        }
    }

    /** Each kind of run has its own letters, so that some runs match often and some seldom. */
    private void step(int kind) {
        int choice = next(40);
        if (choice < 10) {
            type(patternsText(kind));
            call("add");
        } else if (choice < 18) {
            type(lettersText(kind));
            call("feedAll");
        } else if (choice < 20) {
            stepOfAnOddText();
        } else if (choice < 26) {
            call("feed");
        } else if (choice < 27) {
            lookAtAll();
        } else {
            String[] rest = {"remove", "rule", "begin", "undo", "undo", "remove", "rule"};
            call(rest[next(rest.length)]);
        }
    }

    private void stepOfAnOddText() {
        type(ODD[next(ODD.length)]);
        call("firstErrors");
        call("add");
        call("feedAll");
        if (next(2) == 0) {
            call("clearBuffer");
        }
    }

    private String patternsText(int kind) {
        StringBuilder text = new StringBuilder();
        int parts = 1 + next(3);
        for (int part = 0; part < parts; part++) {
            text.append(part == 0 ? "" : ";");
            if (next(2) == 0) {
                text.append(PARTS[next(PARTS.length)]);
            } else {
                int length = 1 + next(8);
                for (int place = 0; place < length; place++) {
                    text.append((char) ('a' + next(kind + 2)));
                }
            }
        }
        return text.toString();
    }

    private String lettersText(int kind) {
        StringBuilder text = new StringBuilder();
        int parts = 1 + next(12);
        for (int part = 0; part < parts; part++) {
            text.append((char) ('a' + next(kind + 2)));
            if (next(6) == 0) {
                text.append((char) ('2' + next(8)));
            }
        }
        return text.toString();
    }

    private void type(String text) {
        past.append(" \"").append(text).append('"');
        for (int index = 0; index < text.length(); index++) {
            int code = text.charAt(index);
            hold("append", () -> real.append(code), () -> model.append(code));
        }
    }

    private void hold(String name, Checks.Call got, Checks.Call want) {
        if (calls == CALLS) {
            return;
        }
        calls++;
        checks.due(past + " " + name, Checks.outcome(got), Checks.outcome(want));
    }

    private void call(String name) {
        int number = next(12) - 2;
        int few = next(6) - 1;
        past.append(' ').append(name).append(' ').append(number).append('/').append(few);
        switch (name) {
            case "add":
                hold(name, () -> real.add(), () -> model.add());
                break;
            case "feedAll":
                hold(name, () -> real.feedAll(), () -> model.feedAll());
                break;
            case "clearBuffer":
                hold(name, () -> real.clearBuffer(), () -> model.clearBuffer());
                break;
            case "firstErrors":
                hold(name, () -> real.firstError(true), () -> model.firstError(true));
                hold(name, () -> real.firstError(false), () -> model.firstError(false));
                break;
            case "feed":
                hold(name, () -> real.feed(few), () -> model.feed(few));
                break;
            case "remove":
                hold(name, () -> real.remove(number), () -> model.remove(number));
                break;
            case "rule":
                hold(name, () -> real.rule(few), () -> model.rule(few));
                break;
            case "begin":
                hold(name, () -> real.begin(), () -> model.begin());
                break;
            default:
                hold(name, () -> real.undo(), () -> model.undo());
        }
    }

    private void look() {
        hold("digest", () -> real.digest(), () -> model.digest());
    }

    private void lookAtAll() {
        look();
        for (int slot = -1; slot <= 8; slot++) {
            int at = slot;
            hold("lettersTo " + at, () -> real.lettersTo(at), () -> model.lettersTo(at));
            for (int what = -1; what <= 8; what++) {
                int told = what;
                hold("pattern", () -> real.pattern(at, told), () -> model.pattern(at, told));
                hold("letter", () -> real.letter(at, told), () -> model.letter(at, told));
                hold("ifFed", () -> real.ifFed(at, told), () -> model.ifFed(at, told));
                hold("count", () -> real.count(told + 2), () -> model.count(told + 2));
            }
            int times = 1 + next(40);
            hold("ifRepeated", () -> real.ifRepeated(at, times),
                    () -> model.ifRepeated(at, times));
        }
        for (int state = -1; state <= model.count(1); state++) {
            int at = state;
            int what = next(11) - 1;
            hold("state", () -> real.state(at, what), () -> model.state(at, what));
        }
        hold("setting", () -> real.setting(), () -> model.setting());
        hold("heaviest", () -> real.heaviest(), () -> model.heaviest());
        hold("sharing", () -> Double.doubleToLongBits(real.sharing()),
                () -> Double.doubleToLongBits(model.sharing()));
    }
}
