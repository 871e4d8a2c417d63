import java.util.ArrayList;
import java.util.List;
import java.util.function.Consumer;
import java.util.function.Supplier;
import java.util.function.ToLongFunction;

/** All that an object answers: how a test sees that a call has changed nothing. */
final class Answers {
    /** Together with what makes a scene, this stays below the 512 calls that an object is promised for. */
    private static final int CALLS_OF_ONE = 200;

    private static final List<Question> QUESTIONS = questions();

    private record Question(String call, ToLongFunction<FaultWays> ask) {
    }

    private Answers() {
    }

    /** Each call with its answer, asked of as many alike objects as are needed. */
    static List<String> of(Supplier<FaultWays> scene) {
        List<String> answers = new ArrayList<>();
        FaultWays x = null;
        for (int i = 0; i < QUESTIONS.size(); i++) {
            if (i % CALLS_OF_ONE == 0) {
                x = scene.get();
            }
            answers.add(QUESTIONS.get(i).call + " = " + QUESTIONS.get(i).ask.applyAsLong(x));
        }
        return answers;
    }

    /** What is behind the plain answers: all that can be undone, what the slots hold, what is on the tape. */
    static List<String> behind(Supplier<FaultWays> scene) {
        List<String> answers = new ArrayList<>();
        FaultWays x = scene.get();
        for (int i = 0; i < 42; i++) {
            answers.add("undo " + i + ": " + x.undo() + " " + ways(x));
        }
        for (int slot = 0; slot < 3; slot++) {
            FaultWays y = scene.get();
            answers.add("restore " + slot + ": " + y.restore(slot) + " " + ways(y) + " " + y.count(11));
        }
        FaultWays z = scene.get();
        answers.add("read: " + z.read() + " at " + z.place() + " " + ways(z) + " " + z.count(0) + " " + z.count(1));
        return answers;
    }

    private static String ways(FaultWays x) {
        return x.count(2) + " " + x.count(7) + " " + x.count(8) + " " + x.count(9);
    }

    /** Each call asked ahead of a change and again behind it: what was found ahead must not stay. */
    static List<String> askedAhead(Supplier<FaultWays> scene, Consumer<FaultWays> change) {
        List<String> answers = new ArrayList<>();
        for (int from = 0; from < QUESTIONS.size(); from += CALLS_OF_ONE / 2) {
            List<Question> some = QUESTIONS.subList(from, Math.min(from + CALLS_OF_ONE / 2, QUESTIONS.size()));
            FaultWays x = scene.get();
            for (Question question : some) {
                question.ask.applyAsLong(x);
            }
            change.accept(x);
            for (Question question : some) {
                answers.add(question.call + " = " + question.ask.applyAsLong(x));
            }
        }
        return answers;
    }

    static Supplier<FaultWays> then(Supplier<FaultWays> scene, Consumer<FaultWays> call) {
        return () -> {
            FaultWays x = scene.get();
            call.accept(x);
            return x;
        };
    }

    /** The questions, each asked ahead of each other one in one order or the other. */
    static List<String> backward(Supplier<FaultWays> scene) {
        String[] answers = new String[QUESTIONS.size()];
        FaultWays x = null;
        for (int i = QUESTIONS.size() - 1, asked = 0; i >= 0; i--, asked++) {
            if (asked % CALLS_OF_ONE == 0) {
                x = scene.get();
            }
            answers[i] = QUESTIONS.get(i).call + " = " + QUESTIONS.get(i).ask.applyAsLong(x);
        }
        return List.of(answers);
    }

    private static List<Question> questions() {
        List<Question> all = new ArrayList<>();
        addPlain(all);
        addNumbered(all);
        addOfSets(all);
        addOfPosts(all);
        return all;
    }

    private static void add(List<Question> all, String call, ToLongFunction<FaultWays> ask) {
        all.add(new Question(call, ask));
    }

    private static void addPlain(List<Question> all) {
        add(all, "place()", x -> x.place());
        add(all, "likeliest()", x -> x.likeliest());
        add(all, "level()", x -> x.level());
        add(all, "next()", x -> x.next());
        add(all, "tries(false)", x -> x.tries(false));
        add(all, "tries(true)", x -> x.tries(true));
        for (int w = -1; w <= 18; w++) {
            int what = w;
            add(all, "count(" + what + ")", x -> x.count(what));
        }
        for (int w = -1; w <= 4; w++) {
            int what = w;
            add(all, "cheapest(" + what + ")", x -> x.cheapest(what));
            add(all, "guess(10, " + what + ")", x -> x.guess(10, what));
            add(all, "guess(3, " + what + ")", x -> x.guess(3, what));
            add(all, "guess(11, " + what + ")", x -> x.guess(11, what));
        }
    }

    private static void addNumbered(List<Question> all) {
        for (int n = -2; n <= 13; n++) {
            int i = n;
            add(all, "sets(" + i + ")", x -> x.sets(i));
            add(all, "lean(" + i + ")", x -> x.lean(i));
            add(all, "weight(" + i + ")", x -> x.weight(i));
            add(all, "disbelieved(" + i + ")", x -> x.disbelieved(i));
            add(all, "blamed(" + i + ")", x -> x.blamed(i));
            add(all, "twin(" + i + ")", x -> x.twin(i));
            add(all, "after(" + i + ", true)", x -> x.after(i, true));
            add(all, "after(" + i + ", false)", x -> x.after(i, false));
            for (int w = -1; w <= 5; w++) {
                int what = w;
                add(all, "link(" + i + ", " + what + ")", x -> x.link(i, what));
            }
            for (int w = -1; w <= 3; w++) {
                int what = w;
                add(all, "way(" + i + ", " + what + ")", x -> x.way(i, what));
            }
            for (int k = -1; k <= 8; k++) {
                int at = k;
                add(all, "post(" + i + ", " + at + ")", x -> x.post(i, at));
            }
            for (int w = 0; w <= 2; w++) {
                int what = w;
                add(all, "choice(" + what + ", " + i + ")", x -> x.choice(what, i));
                add(all, "plan(" + what + ", " + i + ")", x -> x.plan(what, i));
            }
        }
    }

    private static void addOfSets(List<Question> all) {
        for (int set : new int[] {-1, 0, 1, 2, 3, 5, 8, 15, 16, 585, 1024, 2340, 4095, 4096}) {
            add(all, "explains(" + set + ")", x -> x.explains(set));
            add(all, "trace(" + set + ")", x -> x.trace(set));
            add(all, "split(" + set + ")", x -> x.split(set));
            add(all, "lost(0, " + set + ")", x -> x.lost(0, set));
            add(all, "lost(7, " + set + ")", x -> x.lost(7, set));
        }
    }

    private static void addOfPosts(List<Question> all) {
        for (int from = -1; from <= 8; from++) {
            for (int to = -1; to <= 8; to++) {
                int a = from;
                int b = to;
                add(all, "path(" + a + ", " + b + ", -1, 0)", x -> x.path(a, b, -1, 0));
                add(all, "path(" + a + ", " + b + ", 1, -1)", x -> x.path(a, b, 1, -1));
                add(all, "path(" + a + ", " + b + ", 1, 1)", x -> x.path(a, b, 1, 1));
                add(all, "fresh(" + a + ", " + b + ")", x -> x.fresh(a, b));
            }
        }
    }
}
