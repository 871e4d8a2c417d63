import java.util.Random;

/** Random runs of calls, each answer held against the Oracle's. */
final class FuzzTest {
    private static final Checks CHECKS = new Checks();

    private final Random random;
    private final Texts texts;
    private FaultWays x;
    private Oracle y;

    private FuzzTest(long seed) {
        random = new Random(seed);
        texts = new Texts(random);
    }

    public static void main(String[] args) {
        int runs = args.length > 0 ? Integer.parseInt(args[0]) : 1;
        for (int r = 0; r < runs; r++) {
            for (int i = 0; i < 1500; i++) {
                CHECKS.promise("faults, seed " + (r * 1000000 + i));
                new FuzzTest(r * 1000000 + i).faults();
            }
            for (int i = 0; i < 150; i++) {
                CHECKS.promise("small net, seed " + (r * 1000000 + 5000 + i));
                new FuzzTest(r * 1000000 + 5000 + i).calls(6, 7, 7, 200);
            }
            for (int i = 0; i < 60; i++) {
                CHECKS.promise("full net, seed " + (r * 1000000 + 9000 + i));
                new FuzzTest(r * 1000000 + 9000 + i).calls(4 + i % 5, 12, 12, 80);
            }
            for (int i = 0; i < 60; i++) {
                CHECKS.promise("plans, seed " + (r * 1000000 + 11000 + i));
                new FuzzTest(r * 1000000 + 11000 + i).plans(4 + i % 5, 3 + i % 10);
            }
            for (int i = 0; i < 250; i++) {
                CHECKS.promise("text upon text, seed " + (r * 1000000 + 13000 + i));
                new FuzzTest(r * 1000000 + 13000 + i).textUponText();
            }
        }
        CHECKS.end();
    }

    private void type(String text) {
        int rest = (20 - text.length() % 20) % 20;
        String padded = text + "x".repeat(rest);
        for (int i = 0; i < padded.length(); i += 20) {
            feed(Checks.word(padded, i), Checks.word(padded, i + 4), Checks.word(padded, i + 8),
                Checks.word(padded, i + 12), Checks.word(padded, i + 16));
        }
        CHECKS.due("back(" + rest + ")", x.back(rest), y.back(rest));
    }

    private void feed(int a, int b, int c, int d, int e) {
        CHECKS.due("feed()", x.feed(a, b, c, d, e), y.feed(a, b, c, d, e));
    }

    private void read(String text) {
        type(text);
        CHECKS.due("read() of " + text, x.read(), y.read());
        CHECKS.due("place() in " + text, x.place(), y.place());
        CHECKS.due("count(10)", x.count(10), y.count(10));
    }

    /** Reads one text upon another; one with a fault must leave all as it was. */
    private void faults() {
        x = new FaultWays();
        y = new Oracle();
        for (int i = 0; i < 6; i++) {
            boolean isBig = random.nextInt(4) == 0;
            String text = random.nextInt(4) == 0 ? texts.sound(8, isBig ? 12 : 5, isBig ? 12 : 4)
                : texts.broken(random.nextInt(3) == 0 ? 9 : 8, random.nextInt(3) == 0 ? 13 : 5, random.nextInt(3) == 0 ? 13 : 4);
            read(text);
            if (i % 2 == 0) {
                tell();
                lay();
                hold();
            }
            looks();
        }
    }

    private void looks() {
        for (int what : new int[] {0, 1, 2, 7, 8, 9, 11, 12, 14, 15, 16}) {
            CHECKS.due("count(" + what + ")", x.count(what), y.count(what));
        }
        for (int link = 0; link < 12; link++) {
            for (int what = 0; what < 4; what++) {
                CHECKS.due("link(" + link + ", " + what + ")", x.link(link, what), y.link(link, what));
            }
        }
        for (int way = 0; way < 12; way++) {
            CHECKS.due("way(" + way + ", 0)", x.way(way, 0), y.way(way, 0));
            CHECKS.due("way(" + way + ", 1)", x.way(way, 1), y.way(way, 1));
            for (int i = 0; i < 8; i++) {
                CHECKS.due("post(" + way + ", " + i + ")", x.post(way, i), y.post(way, i));
            }
        }
    }

    private void calls(int posts, int links, int ways, int calls) {
        x = new FaultWays();
        y = new Oracle();
        for (int i = 0; i < calls; i++) {
            int kind = random.nextInt(60);
            if (i == 0 || kind == 0) {
                read(random.nextInt(8) == 0 ? texts.broken(posts, links, ways) : texts.sound(posts, links, ways));
            } else if (kind < 8) {
                tell();
            } else if (kind < 11) {
                lay();
            } else if (kind < 14) {
                CHECKS.due("undo()", x.undo(), y.undo());
            } else if (kind < 16) {
                hold();
            } else if (kind < 18) {
                int slot = random.nextInt(5) - 1;
                CHECKS.due("restore(" + slot + ")", x.restore(slot), y.restore(slot));
            } else {
                question(random.nextInt(30));
            }
        }
    }

    /** One text upon another: nothing of an earlier plan may stay. */
    private void plans(int posts, int links) {
        x = new FaultWays();
        y = new Oracle();
        for (int text = 0; text < 4; text++) {
            read(texts.sound(posts, links, 0));
            CHECKS.due("count(17)", x.count(17), y.count(17));
            for (int i = -2; i < 4; i++) {
                CHECKS.due("plan(0, " + i + ")", x.plan(0, i), y.plan(0, i));
                CHECKS.due("plan(1, " + i + ")", x.plan(1, i), y.plan(1, i));
            }
        }
    }

    /** Small nets behind ones that are somewhat greater: rows hold what was there, and it must not count. */
    private void textUponText() {
        x = new FaultWays();
        y = new Oracle();
        for (int text = 0; text < 4; text++) {
            boolean isGreater = text % 2 == 0;
            int links = 1 + random.nextInt(3);
            read(texts.sound(4, isGreater ? links + 1 : links, isGreater ? 5 : 1 + random.nextInt(3)));
            wholes();
            lists();
        }
    }

    private void wholes() {
        CHECKS.due("likeliest()", x.likeliest(), y.likeliest());
        CHECKS.due("level()", x.level(), y.level());
        CHECKS.due("next()", x.next(), y.next());
        CHECKS.due("tries(false)", x.tries(false), y.tries(false));
        CHECKS.due("tries(true)", x.tries(true), y.tries(true));
        CHECKS.due("sets(12)", x.sets(12), y.sets(12));
        for (int what = 0; what < 4; what++) {
            CHECKS.due("cheapest(" + what + ")", x.cheapest(what), y.cheapest(what));
            CHECKS.due("guess(6, " + what + ")", x.guess(6, what), y.guess(6, what));
        }
        for (int what = 3; what < 18; what++) {
            CHECKS.due("count(" + what + ")", x.count(what), y.count(what));
        }
        for (int from = 0; from < 3; from++) {
            CHECKS.due("fresh(" + from + ", 3)", x.fresh(from, 3), y.fresh(from, 3));
            CHECKS.due("path(" + from + ", 3, -1, 0)", x.path(from, 3, -1, 0), y.path(from, 3, -1, 0));
        }
    }

    private void lists() {
        for (int i = -1; i < 5; i++) {
            CHECKS.due("lean(" + i + ")", x.lean(i), y.lean(i));
            CHECKS.due("weight(" + i + ")", x.weight(i), y.weight(i));
            CHECKS.due("disbelieved(" + i + ")", x.disbelieved(i), y.disbelieved(i));
            CHECKS.due("blamed(" + i + ")", x.blamed(i), y.blamed(i));
            CHECKS.due("twin(" + i + ")", x.twin(i), y.twin(i));
            for (int what = 0; what < 2; what++) {
                CHECKS.due("choice(" + what + ", " + i + ")", x.choice(what, i), y.choice(what, i));
                CHECKS.due("plan(" + what + ", " + i + ")", x.plan(what, i), y.plan(what, i));
            }
        }
    }

    private void tell() {
        int way = near(12);
        int outcome = near(3);
        CHECKS.due("tell(" + way + ", " + outcome + ")", x.tell(way, outcome), y.tell(way, outcome));
    }

    private void lay() {
        int from = near(8);
        int to = near(8);
        int i = near(4);
        CHECKS.due("lay(" + from + ", " + to + ", " + i + ")", x.lay(from, to, i), y.lay(from, to, i));
    }

    private void hold() {
        int slot = random.nextInt(5) - 1;
        CHECKS.due("hold(" + slot + ")", x.hold(slot), y.hold(slot));
    }

    /** Mostly what is within a bound, often below what is there, now and then far off. */
    private int near(int bound) {
        int[] far = {-1, -2, bound, bound + 1, 31, 32, 1 << 30, Integer.MAX_VALUE, Integer.MIN_VALUE};
        if (random.nextInt(12) == 0) {
            return far[random.nextInt(far.length)];
        }
        int there = random.nextInt(3) == 0 ? bound : Math.max(1, bound / 2);
        return random.nextInt(there);
    }

    private int nearSet() {
        int links = x.count(1);
        return random.nextInt(12) == 0 ? near(1 << links) : random.nextInt(1 << links);
    }

    private int orNone(int value) {
        return random.nextInt(3) == 0 ? -1 : value;
    }

    private void question(int kind) {
        int a = near(12);
        int b = near(12);
        int small = near(5);
        int set = nearSet();
        int i = orNone(near(4));
        boolean yes = random.nextBoolean();
        switch (kind) {
            case 0 -> CHECKS.due("link(" + a + ", " + small + ")", x.link(a, small), y.link(a, small));
            case 1 -> CHECKS.due("link(" + a + ", 4)", x.link(a, 4), y.link(a, 4));
            case 2 -> CHECKS.due("way(" + a + ", " + small + ")", x.way(a, small), y.way(a, small));
            case 3 -> CHECKS.due("post(" + a + ", " + b + ")", x.post(a, b), y.post(a, b));
            case 4 -> CHECKS.due("sets(" + a + ")", x.sets(a), y.sets(a));
            case 5 -> CHECKS.due("lean(" + i + ")", x.lean(i), y.lean(i));
            case 6 -> CHECKS.due("explains(" + set + ")", x.explains(set), y.explains(set));
            case 7 -> CHECKS.due("likeliest()", x.likeliest(), y.likeliest());
            case 8 -> CHECKS.due("weight(" + a + ")", x.weight(a), y.weight(a));
            case 9 -> CHECKS.due("weight(-1)", x.weight(-1), y.weight(-1));
            case 10 -> CHECKS.due("cheapest(" + small + ")", x.cheapest(small), y.cheapest(small));
            case 11 -> CHECKS.due("level()", x.level(), y.level());
            case 12 -> CHECKS.due("twin(" + a + ")", x.twin(a), y.twin(a));
            case 13 -> CHECKS.due("trace(" + set + ")", x.trace(set), y.trace(set));
            case 14 -> CHECKS.due("after(" + a + ", " + yes + ")", x.after(a, yes), y.after(a, yes));
            case 15 -> CHECKS.due("next()", x.next(), y.next());
            case 16 -> CHECKS.due("tries(" + yes + ")", x.tries(yes), y.tries(yes));
            case 17 -> plan(i);
            case 18 -> guess();
            case 19, 20 -> path(i);
            case 21 -> fresh();
            case 22 -> CHECKS.due("lost(" + a + ", " + set + ")", x.lost(a, set), y.lost(a, set));
            case 23 -> CHECKS.due("split(" + set + ")", x.split(set), y.split(set));
            case 24, 25 -> count();
            case 26, 27 -> choice(i);
            case 28 -> CHECKS.due("disbelieved(" + i + ")", x.disbelieved(i), y.disbelieved(i));
            default -> {
                int way = orNone(a);
                CHECKS.due("blamed(" + way + ")", x.blamed(way), y.blamed(way));
            }
        }
    }

    private void plan(int i) {
        int what = near(2);
        CHECKS.due("plan(" + what + ", " + i + ")", x.plan(what, i), y.plan(what, i));
    }

    private void choice(int i) {
        int what = near(2);
        CHECKS.due("choice(" + what + ", " + i + ")", x.choice(what, i), y.choice(what, i));
    }

    private void guess() {
        int n = near(11);
        int what = near(4);
        CHECKS.due("guess(" + n + ", " + what + ")", x.guess(n, what), y.guess(n, what));
    }

    private void path(int i) {
        int from = near(8);
        int to = near(8);
        int k = orNone(near(8));
        CHECKS.due("path(" + from + ", " + to + ", " + i + ", " + k + ")", x.path(from, to, i, k), y.path(from, to, i, k));
    }

    private void fresh() {
        int from = near(8);
        int to = near(8);
        CHECKS.due("fresh(" + from + ", " + to + ")", x.fresh(from, to), y.fresh(from, to));
    }

    private void count() {
        int what = near(19);
        CHECKS.due("count(" + what + ")", x.count(what), y.count(what));
    }
}
