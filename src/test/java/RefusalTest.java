import java.util.LinkedHashMap;
import java.util.List;
import java.util.Map;
import java.util.function.Consumer;
import java.util.function.Supplier;

/**
 * What a refused call, a text with a fault, and a question leave as it was: all that any other call answers.
 * And what was asked ahead of a change does not show behind it.
 */
final class RefusalTest {
    private static final int NONE = FaultWays.NONE;
    private static final int MIN = Integer.MIN_VALUE;
    private static final int MAX = Integer.MAX_VALUE;
    private static final int QUESTION_MARKS = 0x3f3f3f3f;

    private static final Checks CHECKS = new Checks();

    public static void main(String[] args) {
        for (Map.Entry<String, Supplier<FaultWays>> scene : scenes().entrySet()) {
            refusals(scene.getKey(), scene.getValue());
            faults(scene.getKey(), scene.getValue());
            questions(scene.getKey(), scene.getValue());
            changes(scene.getKey(), scene.getValue());
            undone(scene.getKey(), scene.getValue());
        }
        fullTape();
        fullWays();
        CHECKS.end();
    }

    private static Map<String, Supplier<FaultWays>> scenes() {
        Map<String, Supplier<FaultWays>> all = new LinkedHashMap<>();
        all.put("a new object", FaultWays::new);
        all.put("posts alone", () -> Checks.of("post a;post b;"));
        all.put("in the middle", RefusalTest::middle);
        all.put("nothing explains", () -> Checks.of(Nets.NET + "good x;bad z;eye a;eye d;seed 31;"));
        all.put("all is full", RefusalTest::full);
        return all;
    }

    /** Things done by hand, one slot held, a fault behind and half a text on the tape. */
    private static FaultWays middle() {
        FaultWays x = Checks.of(Nets.NET + "bad x;eye a;eye d;price 3;seed 31;");
        x.tell(2, 1);
        x.hold(1);
        x.lay(0, 3, 1);
        x.tell(3, 2);
        x.tell(2, 0);
        Checks.type(x, "post a;?");
        x.read();
        Checks.type(x, "post q; post r; link q r");
        return x;
    }

    /** Twelve ways, forty things to be undone, three slots held, 2,000 bytes on the tape. */
    private static FaultWays full() {
        FaultWays x = Checks.of(Nets.ALONE + "eye a;eye b;eye g;eye h;price 99;seed 9999;");
        for (int i = 0; i < 42; i++) {
            x.tell(i % 12, 1 + i / 12 % 2);
            if (i % 12 == 0 && i > 0) {
                x.hold(i / 12 - 1);
            }
        }
        Checks.type(x, "post q;" + " ".repeat(1993));
        return x;
    }

    private static void refused(String scene, String call, Supplier<FaultWays> of, Consumer<FaultWays> it) {
        CHECKS.promise(scene + ", behind " + call);
        Supplier<FaultWays> behind = Answers.then(of, it);
        alike(Answers.of(of), Answers.of(behind), "");
        alike(Answers.behind(of), Answers.behind(behind), "");
    }

    private static void alike(List<String> ahead, List<String> behind, String butFor) {
        CHECKS.due("as many answers", behind.size(), ahead.size());
        for (int i = 0; i < ahead.size(); i++) {
            boolean isFree = !butFor.isEmpty() && ahead.get(i).matches(butFor);
            if (!isFree) {
                CHECKS.due(behind.get(i) + ", ahead " + ahead.get(i) + ": alike", behind.get(i).equals(ahead.get(i)), true);
            }
        }
    }

    private static void refusals(String scene, Supplier<FaultWays> of) {
        refused(scene, "back(-1), back of more than there is", of, x -> {
            CHECKS.due("back(-1)", x.back(-1), NONE);
            CHECKS.due("back(MIN)", x.back(MIN), NONE);
            CHECKS.due("back(one more)", x.back(x.count(10) + 1), NONE);
            CHECKS.due("back(MAX)", x.back(MAX), NONE);
        });
        refused(scene, "an outcome told that it is", of, x -> {
            for (int way = 0; way < x.count(2); way++) {
                CHECKS.due("tell(" + way + ", as it is)", x.tell(way, x.way(way, 0)), false);
            }
        });
        refused(scene, "tell of no such ones", of, x -> {
            for (int outcome = 0; outcome <= 2; outcome++) {
                CHECKS.due("tell(-1, " + outcome + ")", x.tell(-1, outcome), false);
                CHECKS.due("tell(one more, " + outcome + ")", x.tell(x.count(2), outcome), false);
                CHECKS.due("tell(MIN, " + outcome + ")", x.tell(MIN, outcome), false);
                CHECKS.due("tell(MAX, " + outcome + ")", x.tell(MAX, outcome), false);
            }
            for (int way = 0; way < x.count(2); way++) {
                CHECKS.due("tell(" + way + ", -1)", x.tell(way, -1), false);
                CHECKS.due("tell(" + way + ", 3)", x.tell(way, 3), false);
                CHECKS.due("tell(" + way + ", MAX)", x.tell(way, MAX), false);
            }
        });
        refused(scene, "lay of no such ones", of, RefusalTest::layRefused);
        refused(scene, "slots that there are not", of, x -> {
            for (int slot : new int[] {MIN, -1, 3, MAX}) {
                CHECKS.due("hold(" + slot + ")", x.hold(slot), false);
                CHECKS.due("restore(" + slot + ")", x.restore(slot), false);
            }
        });
        for (int slot = 0; slot < 3; slot++) {
            int empty = slot;
            if (!of.get().restore(slot)) {
                refused(scene, "restore(" + slot + "), which holds nothing", of,
                    x -> CHECKS.due("restore", x.restore(empty), false));
            }
        }
        if (of.get().count(11) == 0) {
            refused(scene, "undo of nothing", of, x -> CHECKS.due("undo", x.undo(), false));
        }
    }

    private static void layRefused(FaultWays x) {
        int posts = x.count(0);
        for (int post : new int[] {MIN, -1, posts, MAX}) {
            CHECKS.due("lay(" + post + ", 0, 0)", x.lay(post, 0, 0), NONE);
            CHECKS.due("lay(0, " + post + ", 0)", x.lay(0, post, 0), NONE);
        }
        for (int post = 0; post < posts; post++) {
            CHECKS.due("lay to itself", x.lay(post, post, 0), NONE);
            CHECKS.due("lay(0, " + post + ", -1)", x.lay(0, post, -1), NONE);
            CHECKS.due("lay(0, " + post + ", behind the last)", x.lay(0, post, Math.max(0, x.path(0, post, NONE, 0))), NONE);
            CHECKS.due("lay(0, " + post + ", MAX)", x.lay(0, post, MAX), NONE);
        }
    }

    /** One text of each fault; the last ones would change much if they were not refused. */
    private static void faults(String scene, Supplier<FaultWays> of) {
        String[] texts = {"?", "post a;post a;?", "eye a;eye a;eye a;eye a;eye a;", "post a;post a;", "post q;eye r;",
            "post q;post r;link q r 3;way w q r;good w;price 7;seed 8;eye q;price 0;"};
        int[] faults = {1, 1, 2, 3, 4, 5};
        Supplier<FaultWays> ahead = Answers.then(of, x -> x.back(x.count(10)));
        for (int i = 0; i < texts.length; i++) {
            int n = i;
            CHECKS.promise(scene + ": A text with a FAULT changes nothing but the tape: " + texts[n]);
            Supplier<FaultWays> behind = Answers.then(ahead, x -> {
                Checks.type(x, texts[n]);
                CHECKS.due("read", x.read(), faults[n]);
            });
            alike(Answers.of(ahead), Answers.of(behind), "place\\(\\).*");
            alike(Answers.behind(ahead), Answers.behind(behind), "");
        }
    }

    private static void questions(String scene, Supplier<FaultWays> of) {
        CHECKS.promise(scene + ": questions change nothing");
        alike(Answers.of(of), Answers.backward(of), "");
    }

    private static void changes(String scene, Supplier<FaultWays> of) {
        for (int outcome = 0; outcome <= 2; outcome++) {
            int told = outcome;
            changed(scene, "tell(0, " + told + ")", of, x -> x.tell(0, told));
            changed(scene, "tell(2, " + told + ")", of, x -> x.tell(2, told));
        }
        changed(scene, "lay(0, 1, 0)", of, x -> x.lay(0, 1, 0));
        changed(scene, "lay(3, 0, 1)", of, x -> x.lay(3, 0, 1));
        changed(scene, "undo", of, x -> x.undo());
        changed(scene, "two undone", of, x -> {
            x.undo();
            x.undo();
        });
        changed(scene, "all but one undone", of, x -> {
            for (int things = x.count(11); things > 1; things--) {
                x.undo();
            }
        });
        for (int slot = 0; slot < 3; slot++) {
            int held = slot;
            changed(scene, "restore(" + slot + ")", of, x -> x.restore(held));
        }
        for (String text : new String[] {"", "post a;post b;", Nets.NET + "bad y;seed 5;", Nets.FULL + "way w a b;eye a;eye b;"}) {
            changed(scene, "read of " + text, of, x -> readNew(x, text));
        }
    }

    private static void readNew(FaultWays x, String text) {
        x.back(x.count(10));
        Checks.type(x, text);
        x.read();
    }

    private static void changed(String scene, String call, Supplier<FaultWays> of, Consumer<FaultWays> it) {
        CHECKS.promise(scene + ", asked ahead of " + call);
        alike(Answers.of(Answers.then(of, it)), Answers.askedAhead(of, it), "");
    }

    /** Where forty things can be undone already, one less can be then. */
    private static void undone(String scene, Supplier<FaultWays> of) {
        for (int outcome = 0; outcome <= 2; outcome++) {
            int told = outcome;
            CHECKS.promise(scene + ": tell(1, " + told + ") is undone");
            alike(Answers.of(of), Answers.of(Answers.then(of, x -> {
                if (x.tell(1, told)) {
                    CHECKS.due("undo", x.undo(), true);
                }
            })), "count\\(11\\).*");
        }
        for (int path = 0; path <= 1; path++) {
            int laid = path;
            CHECKS.promise(scene + ": lay(0, 3, " + laid + ") is undone");
            alike(Answers.of(of), Answers.of(Answers.then(of, x -> {
                if (x.lay(0, 3, laid) != NONE) {
                    CHECKS.due("undo", x.undo(), true);
                }
            })), "count\\(11\\).*");
        }
    }

    private static void fullTape() {
        for (int bytes : new int[] {1981, 1999, 2000}) {
            Supplier<FaultWays> of = () -> {
                FaultWays x = Checks.of(Nets.NET);
                Checks.type(x, "seed 5;" + " ".repeat(bytes - 7));
                return x;
            };
            refused("a tape of " + bytes + " bytes", "feed", of,
                x -> CHECKS.due("feed", x.feed(QUESTION_MARKS, QUESTION_MARKS, QUESTION_MARKS, QUESTION_MARKS, QUESTION_MARKS), NONE));
        }
    }

    private static void fullWays() {
        Supplier<FaultWays> of = () -> {
            FaultWays x = Checks.of(Nets.FULL);
            for (int way = 0; way < 12; way++) {
                CHECKS.due("lay", x.lay(0, 1, way % 5), way);
            }
            return x;
        };
        refused("twelve ways laid", "lay of a 13th", of, x -> {
            CHECKS.due("lay(0, 1, 0)", x.lay(0, 1, 0), NONE);
            CHECKS.due("lay(2, 3, 4)", x.lay(2, 3, 4), NONE);
        });
    }
}
