import java.util.function.IntUnaryOperator;

/** Counts and prints answers that are not the ones due; feeds texts of any length. */
final class Checks {
    private static final int NONE = FaultWays.NONE;

    private int wrong = 0;
    private int done = 0;
    private String promise = "";
    private FaultWays used = new FaultWays();
    private int textsRead = 0;

    /** What is tested next: a promise, or the document's own words. */
    void promise(String name) {
        promise = name;
    }

    void due(String call, long got, long want) {
        done++;
        if (got != want) {
            wrong++;
            System.out.println(promise + ": " + call + " answered " + got + ", due is " + want);
        }
    }

    void due(String call, boolean got, boolean want) {
        due(call, got ? 1 : 0, want ? 1 : 0);
    }

    /** Answers numbered from 0 on; behind the last one, and below NONE, there is none. */
    void dueRow(String call, IntUnaryOperator got, int... want) {
        for (int i = 0; i < want.length; i++) {
            due(call + " at " + i, got.applyAsInt(i), want[i]);
        }
        due(call + " behind its end", got.applyAsInt(want.length), NONE);
        due(call + " at -2", got.applyAsInt(-2), NONE);
        due(call + " at MIN", got.applyAsInt(Integer.MIN_VALUE), NONE);
        due(call + " at MAX", got.applyAsInt(Integer.MAX_VALUE), NONE);
    }

    /** A list: how many at NONE, then each. */
    void dueList(String call, IntUnaryOperator got, int... want) {
        due(call + ": how many", got.applyAsInt(NONE), want.length);
        dueRow(call, got, want);
    }

    /** A text read by a new object, and by one that has read others ahead: these must not count. */
    void fault(String text, int fault, int place) {
        if (textsRead % 4 == 0) {
            // four texts of 2,000 bytes stay below the 512 calls that an object is promised for
            used = new FaultWays();
        }
        textsRead++;
        fault(new FaultWays(), text, fault, place);
        fault(used, text, fault, place);
    }

    private void fault(FaultWays x, String text, int fault, int place) {
        type(x, text);
        due("read of " + text, x.read(), fault);
        due("place in " + text, x.place(), place);
        due("tape behind " + text, x.count(10), 0);
    }

    void sound(String text) {
        fault(text, 0, NONE);
    }

    void end() {
        System.out.println(done + " answers, " + wrong + " not as due");
        if (wrong != 0) {
            System.exit(1);
        }
    }

    /** Puts a text on the tape; what fills the last twenty bytes goes back. */
    static void type(FaultWays x, String text) {
        int rest = (20 - text.length() % 20) % 20;
        String padded = text + " ".repeat(rest);
        for (int i = 0; i < padded.length(); i += 20) {
            x.feed(word(padded, i), word(padded, i + 4), word(padded, i + 8), word(padded, i + 12), word(padded, i + 16));
        }
        x.back(rest);
    }

    static FaultWays of(String text) {
        FaultWays x = new FaultWays();
        type(x, text);
        x.read();
        return x;
    }

    static int word(String text, int i) {
        return text.charAt(i) << 24 | text.charAt(i + 1) << 16 | text.charAt(i + 2) << 8 | text.charAt(i + 3);
    }
}
