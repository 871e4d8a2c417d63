/** Counts and prints answers that are not the ones due; feeds texts of any length. */
final class Checks {
    private int wrong = 0;
    private int done = 0;
    private String promise = "";

    void promise(String name) {
        promise = name;
    }

    void due(String call, long got, long want) {
        done++;
        if (got != want) {
            wrong++;
            System.out.println(promise + ": " + call + " answered " + got + ", due is " + want);
        }
    }

    void due(String call, boolean got, boolean want) {
        due(call, got ? 1 : 0, want ? 1 : 0);
    }

    void end() {
        System.out.println(done + " answers, " + wrong + " not as due");
        if (wrong != 0) {
            System.exit(1);
        }
    }

    /** Puts a text on the tape; what fills the last twenty bytes goes back. */
    static void type(FaultWays x, String text) {
        int rest = (20 - text.length() % 20) % 20;
        String padded = text + " ".repeat(rest);
        for (int i = 0; i < padded.length(); i += 20) {
            x.feed(word(padded, i), word(padded, i + 4), word(padded, i + 8), word(padded, i + 12), word(padded, i + 16));
        }
        x.back(rest);
    }

    static FaultWays of(String text) {
        FaultWays x = new FaultWays();
        type(x, text);
        x.read();
        return x;
    }

    static int word(String text, int i) {
        return text.charAt(i) << 24 | text.charAt(i + 1) << 16 | text.charAt(i + 2) << 8 | text.charAt(i + 3);
    }
}
