import java.util.List;

/** The edges of the tape, of what is done by hand and of the slots: each test bears the document's words. */
final class HandEdgesTest {
    private static final int NONE = FaultWays.NONE;
    private static final int MIN = Integer.MIN_VALUE;
    private static final int MAX = Integer.MAX_VALUE;
    private static final int BLANKS = 0x20202020;
    private static final String ONE = "post a;post b;link a b 3;way w a b;";

    private static final Checks CHECKS = new Checks();

    public static void main(String[] args) {
        newObject();
        newObjectByHand();
        feed();
        feedBytes();
        back();
        read();
        readInPlace();
        place();
        tell();
        tellNoSuchOnes();
        lay();
        layTwelve();
        layNoSuchOnes();
        undoNothing();
        undoForty();
        undoFortyWithLay();
        undoMixed();
        undoFreed();
        hold();
        restore();
        restoreOther();
        restoreNothing();
        restoreAndUndo();
        manyCalls();
        CHECKS.end();
    }

    private static void due(String call, long got, long want) {
        CHECKS.due(call, got, want);
    }

    private static void due(String call, boolean got, boolean want) {
        CHECKS.due(call, got, want);
    }

    private static int feedBlanks(FaultWays x) {
        return x.feed(BLANKS, BLANKS, BLANKS, BLANKS, BLANKS);
    }

    private static FaultWays withTape(int bytes) {
        FaultWays x = new FaultWays();
        Checks.type(x, " ".repeat(bytes));
        return x;
    }

    private static int undoAll(FaultWays x) {
        int undone = 0;
        while (undone < 100 && x.undo()) {
            undone++;
        }
        return undone;
    }

    // ---- promises 1 to 5

    private static void newObject() {
        CHECKS.promise("1: No POSTS, no LINKS, no WAYS");
        FaultWays x = new FaultWays();
        CHECKS.dueRow("count", x::count, 0, 0, 0, 0, 0, 0, 0, 0, 0, 0, 0, 0, 0, 0, 0, 20, 0, 0);
        CHECKS.dueRow("sets", x::sets, 1, 1, 1, 1, 1, 1, 1, 1, 1, 1, 1, 1, 1);
        CHECKS.dueList("the empty set is lean", x::lean, 0);
        CHECKS.dueRow("explains", x::explains, 2);
        CHECKS.dueRow("trace", x::trace, 0);
        CHECKS.dueRow("split", x::split, 0);
        CHECKS.dueRow("cheapest", x::cheapest, 0, 0, 0, 1);
        CHECKS.dueList("disbelieved", x::disbelieved);
        CHECKS.dueRow("twin", x::twin);
        for (int what = 0; what <= 1; what++) {
            int w = what;
            CHECKS.dueList("choice", i -> x.choice(w, i));
            CHECKS.dueList("plan", i -> x.plan(w, i));
        }
        due("likeliest", x.likeliest(), 0);
        due("weight(NONE)", x.weight(NONE), 1);
        due("weight(0)", x.weight(0), NONE);
        due("blamed(NONE)", x.blamed(NONE), 1);
        due("blamed(0)", x.blamed(0), NONE);
        due("level", x.level(), 0);
        due("after(0)", x.after(0, true), NONE);
        due("next", x.next(), -2);
        due("tries", x.tries(false), 0);
        due("first", x.tries(true), -2);
        due("path", x.path(0, 1, NONE, NONE), NONE);
        due("fresh", x.fresh(0, 1), NONE);
        due("lost", x.lost(0, 0), NONE);
        due("place", x.place(), NONE);
    }

    private static void newObjectByHand() {
        CHECKS.promise("1: nothing can be done by hand, a SLOT can hold that");
        FaultWays x = new FaultWays();
        due("tell", x.tell(0, 1), false);
        due("lay", x.lay(0, 1, 0), NONE);
        due("undo", x.undo(), false);
        due("restore", x.restore(0), false);
        due("hold", x.hold(0), true);
        due("held", x.count(12), 1);
        due("restore", x.restore(0), true);
        due("ways", x.count(2), 0);
    }

    private static void feed() {
        CHECKS.promise("2: NONE, and nothing comes, if it would have more than 2,000");
        due("of 0", feedBlanks(new FaultWays()), 20);
        due("of 1,979", feedBlanks(withTape(1979)), 1999);
        due("of 1,980", feedBlanks(withTape(1980)), 2000);
        for (int bytes : new int[] {1981, 1982, 1999, 2000}) {
            FaultWays x = withTape(bytes);
            due("of " + bytes, feedBlanks(x), NONE);
            due("tape of " + bytes, x.count(10), bytes);
            due("again", feedBlanks(x), NONE);
            due("room is made", x.back(bytes - 1980), 1980);
            due("and used", feedBlanks(x), 2000);
        }
    }

    private static void feedBytes() {
        CHECKS.promise("2: Twenty bytes, the highest of a first, come behind the tape");
        String text = "seed 12;price 34;   ";
        FaultWays x = new FaultWays();
        due("feed", x.feed(0x73656564, 0x2031323b, 0x70726963, 0x65203334, 0x3b202020), 20);
        due("read", x.read(), 0);
        due("seed", x.count(16), 12);
        due("price", x.count(15), 34);
        for (int i = 0; i < 20; i++) {
            FaultWays y = new FaultWays();
            Checks.type(y, "seed 1;");
            Checks.type(y, " ".repeat(i) + "?" + " ".repeat(19 - i));
            due("read", y.read(), 1);
            due("byte " + i + " behind the tape of " + text, y.place(), 7 + i);
        }
        FaultWays z = new FaultWays();
        due("bytes 255 and 128", z.feed(BLANKS, BLANKS, 0x2020ff80, -1, MIN), 20);
        due("read", z.read(), 1);
        due("place", z.place(), 10);
    }

    private static void back() {
        CHECKS.promise("3: NONE, and nothing goes, if it has not so many, or n is below 0");
        for (int bytes : new int[] {0, 1, 19, 20, 21, 1999, 2000}) {
            due("back(0) of " + bytes, withTape(bytes).back(0), bytes);
            due("back of all " + bytes, withTape(bytes).back(bytes), 0);
            FaultWays x = withTape(bytes);
            due("back(one more)", x.back(bytes + 1), NONE);
            due("back(MAX)", x.back(MAX), NONE);
            due("back(-1)", x.back(-1), NONE);
            due("back(MIN)", x.back(MIN), NONE);
            due("tape", x.count(10), bytes);
            if (bytes > 0) {
                due("back(1)", x.back(1), bytes - 1);
                due("back of all but one", withTape(bytes).back(bytes - 1), 1);
            }
        }
        CHECKS.promise("3: The last n bytes of the tape go");
        FaultWays y = new FaultWays();
        Checks.type(y, "seed 12;????");
        due("back(4)", y.back(4), 8);
        due("read", y.read(), 0);
        due("seed", y.count(16), 12);
    }

    private static void read() {
        CHECKS.promise("4: The tape, which is empty then, is read: 0, or the number of its FAULT");
        String[] texts = {"", "post a;", "?", "way w a b c d e f g h i;", "post a;post a;", "eye a;", "price 0;"};
        int[] faults = {0, 0, 1, 2, 3, 4, 5};
        for (int i = 0; i < texts.length; i++) {
            FaultWays x = new FaultWays();
            Checks.type(x, texts[i]);
            due("read of " + texts[i], x.read(), faults[i]);
            due("tape", x.count(10), 0);
            due("back(1)", x.back(1), NONE);
            due("nothing is on it", x.read(), 0);
            due("place", x.place(), NONE);
        }
        FaultWays full = withTape(2000);
        due("read of 2,000 bytes", full.read(), 0);
        due("all is free again", feedBlanks(full), 20);
    }

    private static void readInPlace() {
        CHECKS.promise("4: else it is in place of the one ahead; nothing can be undone, SLOTS hold nothing");
        for (String text : new String[] {"", ONE, "post a;", Nets.NET + "eye a;eye d;bad x;", Nets.FULL}) {
            List<String> want = Answers.of(() -> Checks.of(text));
            List<String> got = Answers.of(() -> behindAnother(text));
            for (int i = 0; i < want.size(); i++) {
                due(got.get(i) + " behind another text, else " + want.get(i), got.get(i).equals(want.get(i)), true);
            }
            FaultWays x = behindAnother(text);
            due("undo", x.undo(), false);
            for (int slot = 0; slot < 3; slot++) {
                due("restore(" + slot + ")", x.restore(slot), false);
            }
        }
    }

    private static FaultWays behindAnother(String text) {
        FaultWays x = Checks.of(Nets.ALONE + "eye a;eye b;eye c;eye h;bad k;good l;good m;good n;good o;good p;good u;price 7;seed 8;");
        x.plan(0, 0);
        x.path(0, 1, 0, 0);
        x.tell(1, 2);
        x.hold(0);
        x.hold(1);
        x.hold(2);
        Checks.type(x, text);
        due("read", x.read(), 0);
        return x;
    }

    private static void place() {
        CHECKS.promise("5: The byte of the latest read()'s FAULT; NONE without");
        FaultWays x = new FaultWays();
        due("no read yet", x.place(), NONE);
        Checks.type(x, "?");
        due("not read yet", x.place(), NONE);
        x.read();
        due("the first byte", x.place(), 0);
        Checks.type(x, " ".repeat(1996) + "post");
        due("the one ahead", x.place(), 0);
        x.read();
        due("the end", x.place(), 2000);
        x.tell(0, 0);
        x.undo();
        x.feed(0, 0, 0, 0, 0);
        x.back(20);
        due("other calls leave it", x.place(), 2000);
        x.read();
        due("without", x.place(), NONE);
    }

    // ---- promises 6 to 8

    private static void tell() {
        CHECKS.promise("6: An OUTCOME (0 .. 2) of a WAY is told: true; false: it is that");
        for (int ahead = 0; ahead <= 2; ahead++) {
            for (int then = 0; then <= 2; then++) {
                FaultWays x = Checks.of(ONE + (ahead == 0 ? "" : ahead == 1 ? "good w;" : "bad w;"));
                due("tell(0, " + then + ") of " + ahead, x.tell(0, then), ahead != then);
                due("outcome", x.way(0, 0), then);
                due("things to be undone", x.count(11), ahead == then ? 0 : 1);
                due("good", x.count(7), then == 1 ? 1 : 0);
                due("bad", x.count(8), then == 2 ? 1 : 0);
                due("undo", x.undo(), ahead != then);
                due("outcome", x.way(0, 0), ahead);
            }
        }
    }

    private static void tellNoSuchOnes() {
        CHECKS.promise("6: false, and nothing happens: no such ones");
        FaultWays x = Checks.of(Nets.ALONE);
        for (int outcome : new int[] {MIN, -2, -1, 3, 4, MAX}) {
            due("tell(0, " + outcome + ")", x.tell(0, outcome), false);
            due("tell(11, " + outcome + ")", x.tell(11, outcome), false);
        }
        for (int way : new int[] {MIN, -2, -1, 12, 13, 32, MAX}) {
            due("tell(" + way + ", 1)", x.tell(way, 1), false);
            due("tell(" + way + ", 0)", x.tell(way, 0), false);
        }
        due("good", x.count(7), 0);
        due("bad", x.count(8), 0);
        due("nothing to be undone", x.count(11), 0);
        due("the last way", x.tell(11, 2), true);
        due("bad", x.count(8), 1 << 11);
        FaultWays y = Checks.of(ONE);
        due("behind the only way", y.tell(1, 1), false);
        due("a way once laid", y.lay(0, 1, 0), 1);
        due("can be told", y.tell(1, 1), true);
    }

    private static void lay() {
        CHECKS.promise("7: The i-th PATH (from 0 on) of two POSTS is laid: the WAY's number");
        FaultWays x = Checks.of(Nets.FULL);
        due("the first", x.lay(0, 1, 0), 0);
        CHECKS.dueRow("its posts", i -> x.post(0, i), 0, 1);
        due("the last", x.lay(0, 1, 4), 1);
        CHECKS.dueRow("its posts", i -> x.post(1, i), 0, 3, 2, 1);
        due("the same again", x.lay(0, 1, 4), 2);
        due("the other way round", x.lay(1, 0, 4), 3);
        CHECKS.dueRow("its posts", i -> x.post(3, i), 1, 3, 2, 0);
        CHECKS.promise("7: a PATH is laid as a WAY more, its OUTCOME not known");
        for (int way = 0; way < 4; way++) {
            due("outcome", x.way(way, 0), 0);
        }
        due("ways", x.count(2), 4);
        due("things to be undone", x.count(11), 4);
        x.tell(3, 1);
        x.undo();
        x.undo();
        due("laid where a known one was", x.lay(2, 3, 0), 3);
        due("it is not known", x.way(3, 0), 0);
    }

    private static void layTwelve() {
        CHECKS.promise("7: NONE, and nothing happens: there are 12");
        FaultWays x = Checks.of(Nets.FULL);
        for (int way = 0; way < 12; way++) {
            due("lay", x.lay(2, 3, way % 5), way);
        }
        due("a 13th", x.lay(2, 3, 0), NONE);
        due("ways", x.count(2), 12);
        due("things to be undone", x.count(11), 12);
        due("undo", x.undo(), true);
        due("there are 11", x.lay(2, 3, 1), 11);
        due("a 13th", x.lay(0, 1, 0), NONE);
        FaultWays y = Checks.of(Nets.ALONE);
        due("12 of the text", y.lay(0, 1, 0), NONE);
        due("nothing to be undone", y.count(11), 0);
    }

    private static void layNoSuchOnes() {
        CHECKS.promise("7: NONE, and nothing happens: no such ones");
        FaultWays x = Checks.of(Nets.FULL + "post e;");
        for (int post : new int[] {MIN, -2, -1, 5, 6, 8, 32, MAX}) {
            due("from " + post, x.lay(post, 1, 0), NONE);
            due("to " + post, x.lay(1, post, 0), NONE);
        }
        for (int i : new int[] {MIN, -2, -1, 5, 6, MAX}) {
            due("path " + i, x.lay(0, 1, i), NONE);
        }
        due("to itself", x.lay(3, 3, 0), NONE);
        due("to a post without links", x.lay(0, 4, 0), NONE);
        due("from it", x.lay(4, 0, 0), NONE);
        due("ways", x.count(2), 0);
        due("nothing to be undone", x.count(11), 0);
    }

    private static void undoNothing() {
        CHECKS.promise("8: false: there is none");
        due("a new object", new FaultWays().undo(), false);
        FaultWays x = Checks.of(ONE + "bad w;");
        due("what a text tells is not by hand", x.undo(), false);
        x.hold(0);
        due("nor is what a slot holds", x.undo(), false);
        x.tell(0, 2);
        x.tell(0, 3);
        x.lay(0, 0, 0);
        due("nor what was refused", x.undo(), false);
        due("outcome", x.way(0, 0), 2);
        x.tell(0, 1);
        due("one thing", x.undo(), true);
        due("and no more", x.undo(), false);
        due("outcome", x.way(0, 0), 2);
    }

    private static void undoForty() {
        CHECKS.promise("8: the last 40 can be");
        for (int things : new int[] {0, 1, 39, 40, 41, 42, 79, 80, 81, 121}) {
            FaultWays x = Checks.of(ONE);
            for (int i = 1; i <= things; i++) {
                due("tell", x.tell(0, i % 3), true);
            }
            int can = Math.min(things, 40);
            due("things that can be undone of " + things, x.count(11), can);
            for (int i = 1; i <= can; i++) {
                due("undo " + i + " of " + things, x.undo(), true);
                due("outcome", x.way(0, 0), (things - i) % 3);
                due("things left", x.count(11), can - i);
            }
            due("one more", x.undo(), false);
            due("outcome", x.way(0, 0), (things - can) % 3);
        }
    }

    private static void undoFortyWithLay() {
        CHECKS.promise("8: the last 40 can be, a WAY laid is one of them");
        for (int tells : new int[] {38, 39, 40, 41}) {
            FaultWays x = Checks.of(ONE);
            due("lay", x.lay(1, 0, 0), 1);
            for (int i = 1; i <= tells; i++) {
                due("tell", x.tell(1, i % 3), true);
            }
            due("undone", undoAll(x), Math.min(tells + 1, 40));
            due("the way laid is gone, if it could be", x.count(2), tells < 40 ? 1 : 2);
            due("its outcome", x.way(1, 0), tells < 40 ? NONE : tells - 40);
        }
    }

    private static void undoMixed() {
        CHECKS.promise("8: The last thing done by hand is undone");
        FaultWays x = Checks.of(ONE + "good w;");
        x.tell(0, 2);
        x.lay(0, 1, 0);
        x.tell(1, 1);
        x.lay(1, 0, 0);
        x.tell(0, 0);
        int[] ways = {3, 2, 2, 1, 1};
        int[] good = {2, 2, 0, 0, 1};
        int[] bad = {1, 1, 1, 1, 0};
        for (int i = 0; i < 5; i++) {
            due("undo", x.undo(), true);
            due("ways", x.count(2), ways[i]);
            due("good", x.count(7), good[i]);
            due("bad", x.count(8), bad[i]);
            due("seen by", x.link(0, 3), (1 << ways[i]) - 1);
        }
        due("undo", x.undo(), false);
    }

    private static void undoFreed() {
        CHECKS.promise("8: what was undone counts no more among the last 40");
        FaultWays x = Checks.of(ONE);
        for (int i = 1; i <= 45; i++) {
            x.tell(0, i % 3);
        }
        due("undo", x.undo(), true);
        due("undo", x.undo(), true);
        due("things", x.count(11), 38);
        due("tell", x.tell(0, 2), true);
        due("things", x.count(11), 39);
        due("tell", x.tell(0, 0), true);
        due("things", x.count(11), 40);
        due("tell", x.tell(0, 1), true);
        due("things", x.count(11), 40);
        due("undone", undoAll(x), 40);
        // the thing that fell away was the sixth tell
        due("outcome", x.way(0, 0), 0);
    }

    // ---- promises 33 and 34

    private static void hold() {
        CHECKS.promise("33: All WAYS and OUTCOMES as they are are held in a SLOT (0 .. 2): true; false: no such one");
        FaultWays x = Checks.of(ONE);
        for (int slot : new int[] {MIN, -2, -1, 3, 4, MAX}) {
            due("hold(" + slot + ")", x.hold(slot), false);
        }
        due("held", x.count(12), 0);
        for (int slot = 0; slot < 3; slot++) {
            due("hold(" + slot + ")", x.hold(slot), true);
            due("held", x.count(12), slot + 1);
            due("again", x.hold(slot), true);
            due("held", x.count(12), slot + 1);
        }
        CHECKS.promise("33: held as they are then");
        FaultWays y = Checks.of(ONE);
        for (int slot = 0; slot < 3; slot++) {
            y.tell(0, (slot + 1) % 3);
            y.hold(slot);
        }
        for (int slot = 2; slot >= 0; slot--) {
            due("restore(" + slot + ")", y.restore(slot), true);
            due("outcome", y.way(0, 0), (slot + 1) % 3);
        }
        y.tell(0, 2);
        due("held anew", y.hold(0), true);
        y.tell(0, 0);
        due("restore", y.restore(0), true);
        due("outcome", y.way(0, 0), 2);
    }

    private static void restore() {
        CHECKS.promise("34: All is as a SLOT holds it (it stays there)");
        FaultWays x = Checks.of(ONE);
        due("nothing but the text", x.hold(0), true);
        for (int way = 1; way < 12; way++) {
            x.lay(way % 2, 1 - way % 2, 0);
            x.tell(way, 1 + way % 2);
        }
        due("twelve ways", x.hold(2), true);
        for (int round = 0; round < 3; round++) {
            due("restore(0)", x.restore(0), true);
            due("ways", x.count(2), 1);
            due("good", x.count(7), 0);
            due("bad", x.count(8), 0);
            due("way 1", x.way(1, 0), NONE);
            due("sets", x.sets(12), 2);
            due("restore(2)", x.restore(2), true);
            due("ways", x.count(2), 12);
            due("good", x.count(7), 0b010101010100);
            due("bad", x.count(8), 0b101010101010);
            due("posts of way 11", x.post(11, 0), 1);
            due("sets", x.sets(12), 0);
            due("a 13th", x.lay(0, 1, 0), NONE);
            due("held", x.count(12), 2);
        }
    }

    private static void restoreOther() {
        CHECKS.promise("34: All is as a SLOT holds it: WAYS laid, undone and laid otherwise");
        FaultWays x = Checks.of(Nets.FULL);
        x.lay(0, 1, 4);
        x.tell(0, 1);
        x.hold(1);
        x.undo();
        x.undo();
        due("another one in its place", x.lay(2, 3, 0), 0);
        x.tell(0, 2);
        x.hold(2);
        due("restore(1)", x.restore(1), true);
        CHECKS.dueRow("its posts", i -> x.post(0, i), 0, 3, 2, 1);
        CHECKS.dueRow("the way", what -> x.way(0, what), 1, 4 + 8 + 32, 4);
        due("cleared", x.count(3), 44);
        due("restore(2)", x.restore(2), true);
        CHECKS.dueRow("its posts", i -> x.post(0, i), 2, 3);
        CHECKS.dueRow("the way", what -> x.way(0, what), 2, 32, 2);
        due("sure", x.count(4), 32);
    }

    private static void restoreNothing() {
        CHECKS.promise("34: false, and nothing happens: no such one, it holds nothing");
        FaultWays x = Checks.of(ONE);
        x.tell(0, 1);
        for (int slot : new int[] {MIN, -2, -1, 3, 4, MAX}) {
            due("restore(" + slot + ")", x.restore(slot), false);
        }
        for (int slot = 0; slot < 3; slot++) {
            due("restore(" + slot + ")", x.restore(slot), false);
        }
        due("outcome", x.way(0, 0), 1);
        due("things to be undone", x.count(11), 1);
        x.hold(1);
        x.tell(0, 2);
        due("restore(0)", x.restore(0), false);
        due("restore(2)", x.restore(2), false);
        due("outcome", x.way(0, 0), 2);
        due("undo", x.undo(), true);
        due("undo", x.undo(), true);
        due("outcome", x.way(0, 0), 0);
    }

    private static void restoreAndUndo() {
        CHECKS.promise("34: nothing can be undone then");
        FaultWays x = Checks.of(ONE);
        x.tell(0, 1);
        x.hold(0);
        due("holding leaves what can be undone", x.count(11), 1);
        due("restore", x.restore(0), true);
        due("nothing to be undone", x.count(11), 0);
        due("undo", x.undo(), false);
        due("outcome", x.way(0, 0), 1);
        x.tell(0, 2);
        due("what is done then can be", x.count(11), 1);
        due("undo", x.undo(), true);
        due("outcome", x.way(0, 0), 1);
        due("undo", x.undo(), false);
        x.lay(0, 1, 0);
        x.tell(1, 2);
        due("restore", x.restore(0), true);
        due("undo", x.undo(), false);
        due("ways", x.count(2), 1);
    }

    private static void manyCalls() {
        CHECKS.promise("An object is used for at most 512 calls after it has been made");
        FaultWays x = new FaultWays();
        Checks.type(x, ONE);
        x.read();
        // 35 bytes of text: two calls of feed, one of back and one of read are behind it
        for (int call = 5; call < 510; call++) {
            due("tell", x.tell(0, 1 + call % 2), true);
        }
        due("things", x.count(11), 40);
        due("undo", x.undo(), true);
        due("the 512th", x.way(0, 0), 1);
    }
}
