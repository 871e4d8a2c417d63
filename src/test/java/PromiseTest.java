/** Each promise of the document by answers worked out by hand: ordinary inputs, edges, wrong inputs. */
final class PromiseTest {
    private static final int NONE = FaultWays.NONE;
    private static final int MIN = Integer.MIN_VALUE;
    private static final int MAX = Integer.MAX_VALUE;

    private static final String NET = Nets.NET;
    private static final String FULL = Nets.FULL;
    private static final String CHAIN = Nets.CHAIN;
    private static final String TWELVE = Nets.TWELVE;
    private static final String ALONE = Nets.ALONE;

    private static final Checks CHECKS = new Checks();

    public static void main(String[] args) {
        newObject();
        feed();
        back();
        readTokens();
        readRoom();
        readNames();
        readWrong();
        readChanges();
        place();
        tell();
        lay();
        undo();
        link();
        wayAndPost();
        sets();
        lean();
        explains();
        likeliest();
        weight();
        cheapest();
        disbelieved();
        blamed();
        level();
        twin();
        trace();
        choice();
        after();
        next();
        tries();
        plan();
        planApart();
        guess();
        path();
        fresh();
        lost();
        split();
        hold();
        restore();
        count();
        anyArguments();
        CHECKS.end();
    }

    private static void due(String call, long got, long want) {
        CHECKS.due(call, got, want);
    }

    private static void due(String call, boolean got, boolean want) {
        CHECKS.due(call, got, want);
    }

    private static void dueRow(String call, java.util.function.IntUnaryOperator got, int... want) {
        CHECKS.dueRow(call, got, want);
    }

    private static void newObject() {
        CHECKS.promise("1 new");
        FaultWays x = new FaultWays();
        for (int what = 0; what <= 17; what++) {
            due("count(" + what + ")", x.count(what), what == 15 ? 20 : 0);
        }
        due("place", x.place(), NONE);
        due("lean", x.lean(NONE), 1);
        due("restore", x.restore(0), false);
        due("undo", x.undo(), false);
        due("split", x.split(0), 0);
    }

    private static void feed() {
        CHECKS.promise("2 feed");
        FaultWays x = new FaultWays();
        for (int i = 1; i <= 100; i++) {
            due("feed " + i, x.feed(0x20202020, 0x20202020, 0x20202020, 0x20202020, 0x20202020), 20 * i);
        }
        due("feed 101", x.feed(0, 0, 0, 0, 0), NONE);
        due("tape", x.count(10), 2000);
        due("back", x.back(19), 1981);
        due("feed beyond", x.feed(0, 0, 0, 0, 0), NONE);
        due("tape", x.count(10), 1981);
        due("back", x.back(1), 1980);
        due("feed", x.feed(0x20202020, 0x20202020, 0x20202020, 0x20202020, 0x3b202020), 2000);
        due("read", x.read(), 1);
        due("the highest byte comes first", x.place(), 1996);
        x.feed(0x20202020, 0x20203b20, 0x20202020, 0x20202020, 0x3b202020);
        due("read", x.read(), 1);
        due("behind the tape of old nothing stays", x.place(), 6);
        x.feed(0x20202020, -1, 0x20202020, 0x20202020, 0x3b202020);
        due("read", x.read(), 1);
        due("place", x.place(), 4);
    }

    private static void back() {
        CHECKS.promise("3 back");
        FaultWays x = new FaultWays();
        due("back(0)", x.back(0), 0);
        due("back(1)", x.back(1), NONE);
        x.feed(0x706f7374, 0x20613b3b, 0, 0, 0);
        due("back(21)", x.back(21), NONE);
        due("back(-1)", x.back(-1), NONE);
        due("back(MIN)", x.back(MIN), NONE);
        due("back(MAX)", x.back(MAX), NONE);
        due("tape", x.count(10), 20);
        due("back(0)", x.back(0), 20);
        due("back(13)", x.back(13), 7);
        due("read", x.read(), 0);
        due("posts", x.count(0), 1);
        x.feed(0, 0, 0, 0, 0);
        due("back(20)", x.back(20), 0);
    }

    private static void fault(String text, int fault, int place) {
        CHECKS.fault(text, fault, place);
    }

    private static void readTokens() {
        CHECKS.promise("4 read: syntax");
        fault("", 0, NONE);
        fault(" \t\r\n", 0, NONE);
        fault("post a;", 0, NONE);
        fault("\tpost\ra\n;", 0, NONE);
        fault("post abcdefgh;", 0, NONE);
        fault("post abcdefghi;", 1, 5);
        fault("posta;", 1, 0);
        fault("post a1;", 1, 6);
        fault("post 1;", 1, 5);
        fault("post A;", 1, 5);
        fault("post post;", 1, 5);
        fault("post seed;", 1, 5);
        fault("post seeds;", 0, NONE);
        fault("post price;", 1, 5);
        fault("post eye;", 1, 5);
        fault("post a b;", 1, 7);
        fault("post;", 1, 4);
        fault("post", 1, 4);
        fault("post  ", 1, 6);
        fault("post a", 1, 6);
        fault("post a \n", 1, 8);
        fault(";", 1, 0);
        fault("a;", 1, 0);
        fault("7;", 1, 0);
        fault("post a;;", 1, 7);
        fault("post a\u0000;", 1, 6);
        fault("post a\u000b;", 1, 6);
        fault("post a\u00e1;", 1, 6);
        fault("price5;seed0;", 0, NONE);
        fault("price 12345;", 1, 6);
        fault("price 00001;", 1, 6);
        fault("price 0099;", 0, NONE);
        fault("price a;", 1, 6);
        fault("price 5 6;", 1, 8);
        fault("price -5;", 1, 6);
        fault("seed 9999;", 0, NONE);
        fault("seed 10000;", 1, 5);
        fault("post a;post b;link a b1;", 0, NONE);
        fault("post a;post b;link a b;", 1, 22);
        fault("post a;post b;link a 1;", 1, 21);
        fault("post a;post b;link a b 1 1;", 1, 25);
        fault("post a;post b;link a b 1", 1, 24);
        fault("way w;", 1, 5);
        fault("way w a;", 1, 7);
        fault("way w a 1;", 1, 8);
        fault("way w a b 1;", 1, 10);
        fault("way w a b", 1, 9);
        fault("good 1;", 1, 5);
        fault("bad;", 1, 3);
        fault("eye a b;", 1, 6);
    }

    private static final String FILL = "post a;post b;post c;link a b 1;link b c 1;" + "seed 1;".repeat(127);

    private static void readRoom() {
        CHECKS.promise("4 read: room");
        fault(FILL, 0, NONE);
        fault(FILL + " ", 0, NONE);
        fault(FILL + "seed 1;", 2, FILL.length());
        fault(FILL + "seed;", 2, FILL.length());
        fault(FILL + "?", 1, FILL.length());
        fault(FILL + " a", 1, FILL.length() + 1);
        fault("price 1;".repeat(133) + "price 1;", 2, 8 * 133 + 6);
        fault("price 1;".repeat(133) + "price", 1, 8 * 133 + 5);
        fault("price 1;".repeat(133) + "price a", 1, 8 * 133 + 6);
        String eight = "post a;post b;post c;post d;post e;post f;post g;post h;";
        fault(eight, 0, NONE);
        fault(eight + "post i;", 2, 56);
        fault(eight + "post a;", 2, 56);
        fault(eight + "post 1", 2, 56);
        fault(eight + "link i i 0; post i;", 2, 68);
        String links = "link a b 1;link a c 1;link a d 1;link a e 1;link a f 1;link a g 1;link b c 1;link b d 1;link b e 1;"
            + "link b f 1;link b g 1;link h g 1;";
        fault(eight + links, 0, NONE);
        fault(eight + links + " link a b 1;", 2, 56 + 132 + 1);
        String ways = "way k a b;way l a b;way m a b;way n a b;way o a b;way p a b;way q a b;way r a b;way s a b;"
            + "way t a b;way u a b;way v a b;";
        fault(eight + links + ways, 0, NONE);
        fault(eight + links + ways + "way", 2, 56 + 132 + 120);
        fault("post a;eye a;eye a;eye a;eye a;", 0, NONE);
        fault("post a;eye a;eye a;eye a;eye a;eye a;", 2, 31);
        fault("way w a b c d e f g h;", 4, 6);
        fault("way w a b c d e f g h i;", 2, 22);
        fault("way w a b c d e f g h 1;", 1, 22);
        fault("post a;post a;way w a b c d e f g h i;", 2, 36);
        fault("post a;post a;?", 1, 14);
        fault("way w a b c d e f g h i ? ;", 2, 22);
    }

    private static void readNames() {
        CHECKS.promise("4 read: twice and name");
        fault("post a;post a;", 3, 12);
        fault("post a;way a a a;", 3, 11);
        fault("way a b c;post a;", 4, 6);
        fault("post b;post c;link b c 1;way a b c;post a;", 3, 40);
        fault("post b;post c;link b c 1;way a b c;way a c b;", 3, 39);
        fault("eye a;way a b c;post a;", 4, 4);
        fault("good a;post a;way a b c;", 4, 5);
        fault("post a;link a a 1;", 3, 14);
        fault("link a a 1;", 4, 5);
        fault("link a a 0;post a;", 3, 7);
        fault("post a;post b;link a b 1;link a b 1;", 3, 32);
        fault("post a;post b;link a b 1;link b a 0;", 3, 32);
        fault("post a;post b;link a b 0;link b a 1;", 5, 23);
        fault("link a b 1;post a;post b;", 0, NONE);
        fault("link a b 1;post b;", 4, 5);
        fault("link a b 1;post a;", 4, 7);
        fault("post a;eye b;", 4, 11);
        fault("eye a;post a;", 0, NONE);
        fault("post a;good a;", 4, 12);
        fault("bad w;post a;post b;way w a b;link a b 1;", 0, NONE);
        fault("bad v;post a;post b;way w a b;link a b 1;", 4, 4);
        fault("post a;post b;link a b 1;way w a w;", 4, 33);
        fault("post a;post b;link a b 1;way w a b c;", 4, 35);
    }

    private static void readWrong() {
        CHECKS.promise("4 read: wrong");
        fault("post a;post b;link a b 0;", 5, 23);
        fault("post a;post b;link a b 10;", 5, 23);
        fault("post a;post b;link a b 9;", 0, NONE);
        fault("post a;post b;link a b 0009;", 0, NONE);
        fault("price 0;", 5, 6);
        fault("price 1;", 0, NONE);
        fault("price 99;", 0, NONE);
        fault("price 100;", 5, 6);
        fault("seed 0;", 0, NONE);
        String two = "post a;post b;post c;link a b 1;";
        fault(two + "way w a b a;", 5, 42);
        fault(two + "way w a a;", 5, 40);
        fault(two + "way w b c;", 5, 40);
        fault(two + "way w a b c;", 5, 42);
        fault(two + "way w a b c;link c b 1;", 0, NONE);
        fault(two + "way w a b c;link c b 0;", 5, 53);
        fault(two + "way w a b c;link c c 1;", 5, 42);
        fault(two + "way w a d b;", 4, 40);
        fault("price 0;post a;post a;", 5, 6);
        fault("post a;post a;price 0;", 3, 12);
    }

    private static void readChanges() {
        CHECKS.promise("4 read: what it changes");
        FaultWays x = Checks.of(NET + "bad x;good z;bad z;eye a;price 3;seed 44;");
        due("the last outcome told", x.way(2, 0), 2);
        x.tell(0, 1);
        x.hold(1);
        Checks.type(x, "post q;post q;");
        due("read", x.read(), 3);
        due("tape", x.count(10), 0);
        due("posts stay", x.count(0), 4);
        due("links stay", x.count(1), 4);
        due("ways stay", x.count(2), 3);
        due("price stays", x.count(15), 3);
        due("seed stays", x.count(16), 44);
        due("eyes stay", x.count(14), 1);
        due("told stays", x.way(0, 0), 1);
        due("slots stay", x.count(12), 1);
        due("what was done stays", x.count(11), 1);
        Checks.type(x, "price 7;price 8;post b;");
        due("read", x.read(), 0);
        due("place", x.place(), NONE);
        due("posts", x.count(0), 1);
        due("links", x.count(1), 0);
        due("ways", x.count(2), 0);
        due("the last price", x.count(15), 8);
        due("seed", x.count(16), 0);
        due("eyes", x.count(14), 0);
        due("slots", x.count(12), 0);
        due("restore", x.restore(1), false);
        due("undo", x.undo(), false);
        due("path of old", x.path(0, 1, NONE, 0), NONE);
        due("read nothing", x.read(), 0);
        due("posts", x.count(0), 0);
        due("price", x.count(15), 20);
    }

    private static void place() {
        CHECKS.promise("5 place");
        FaultWays x = new FaultWays();
        due("place", x.place(), NONE);
        Checks.type(x, " ;");
        due("place before read", x.place(), NONE);
        due("read", x.read(), 1);
        due("place", x.place(), 1);
        due("place again", x.place(), 1);
        Checks.type(x, "post a");
        due("place of the latest read", x.place(), 1);
        due("read", x.read(), 1);
        due("place at the end", x.place(), 6);
        due("read", x.read(), 0);
        due("place without", x.place(), NONE);
    }

    private static void tell() {
        CHECKS.promise("6 tell");
        FaultWays x = Checks.of(NET);
        due("tell(0, 0)", x.tell(0, 0), false);
        due("tell(0, 1)", x.tell(0, 1), true);
        due("way", x.way(0, 0), 1);
        due("tell(0, 1)", x.tell(0, 1), false);
        due("tell(0, 2)", x.tell(0, 2), true);
        due("tell(0, 0)", x.tell(0, 0), true);
        due("way", x.way(0, 0), 0);
        due("done", x.count(11), 3);
        due("tell(0, 3)", x.tell(0, 3), false);
        due("tell(0, -1)", x.tell(0, -1), false);
        due("tell(3, 1)", x.tell(3, 1), false);
        due("tell(-1, 1)", x.tell(-1, 1), false);
        due("tell(MAX, 1)", x.tell(MAX, 1), false);
        due("done", x.count(11), 3);
        due("tell(2, 2)", x.tell(2, 2), true);
        due("bad", x.count(8), 4);
        due("lean after", x.lean(0), 1);
        due("tell(2, 1)", x.tell(2, 1), true);
        due("lean after that", x.lean(0), 0);
    }

    private static void lay() {
        CHECKS.promise("7 lay");
        FaultWays x = Checks.of(NET + "bad x;");
        due("lay(0, 3, 2)", x.lay(0, 3, 2), NONE);
        due("lay(0, 3, -1)", x.lay(0, 3, -1), NONE);
        due("lay(0, 0, 0)", x.lay(0, 0, 0), NONE);
        due("lay(0, 4, 0)", x.lay(0, 4, 0), NONE);
        due("lay(-1, 1, 0)", x.lay(-1, 1, 0), NONE);
        due("done", x.count(11), 0);
        due("lay(0, 3, 1)", x.lay(0, 3, 1), 3);
        dueRow("its posts", i -> x.post(3, i), 0, 1, 2, 3);
        due("its links", x.way(3, 1), 7);
        due("its outcome", x.way(3, 0), 0);
        due("lay(3, 0, 0)", x.lay(3, 0, 0), 4);
        dueRow("its posts", i -> x.post(4, i), 3, 2, 0);
        due("traces know it", x.trace(4), 1 << 1 | 1 << 3 | 1 << 4);
        due("done", x.count(11), 2);
        for (int way = 5; way < 12; way++) {
            due("lay alike", x.lay(0, 1, 0), way);
        }
        due("lay a 13th", x.lay(0, 1, 0), NONE);
        due("ways", x.count(2), 12);
        due("done", x.count(11), 9);
        FaultWays y = Checks.of("post a;post b;post c;link a b 1;");
        due("no path", y.lay(0, 2, 0), NONE);
    }

    private static void undo() {
        CHECKS.promise("8 undo");
        FaultWays x = Checks.of(NET + "bad x;");
        due("undo", x.undo(), false);
        x.tell(0, 1);
        x.lay(0, 3, 0);
        x.tell(3, 2);
        due("lean", x.lean(NONE), 2);
        due("undo", x.undo(), true);
        due("way 3", x.way(3, 0), 0);
        due("lean", x.lean(NONE), 1);
        due("undo", x.undo(), true);
        due("ways", x.count(2), 3);
        due("way 3", x.way(3, 0), NONE);
        due("trace", x.trace(4), 2);
        due("undo", x.undo(), true);
        due("way 0", x.way(0, 0), 2);
        due("undo", x.undo(), false);
        x.lay(0, 1, 0);
        due("laid anew it is not known", x.way(3, 0), 0);
        x.undo();
        for (int i = 0; i < 45; i++) {
            due("tell", x.tell(1, i % 2 + 1), true);
        }
        due("done", x.count(11), 40);
        for (int i = 0; i < 40; i++) {
            due("undo", x.undo(), true);
        }
        due("undo", x.undo(), false);
        due("way 1 after five tells", x.way(1, 0), 1);
        due("a refused one is no thing done", x.tell(1, 1), false);
        due("undo", x.undo(), false);
    }

    private static void link() {
        CHECKS.promise("9 link");
        FaultWays x = Checks.of(NET + "bad x;good z;");
        int[][] want = {{0, 1, 2, 5, 0}, {1, 2, 5, 1, 1}, {2, 3, 1, 2, 3}, {0, 2, 3, 2, 3}};
        for (int l = 0; l < 4; l++) {
            int link = l;
            dueRow("link " + l, what -> x.link(link, what), want[l]);
            due("link, -1", x.link(l, -1), NONE);
        }
        due("link(4, 0)", x.link(4, 0), NONE);
        due("link(-1, 0)", x.link(-1, 0), NONE);
        due("link(MAX, 4)", x.link(MAX, 4), NONE);
        x.tell(2, 0);
        due("doubtful", x.link(0, 4), 2);
        due("doubtful", x.link(1, 4), 2);
        due("idle", x.link(2, 4), 3);
        x.tell(0, 1);
        x.tell(2, 2);
        due("nothing explains", x.link(0, 4), -2);
        due("nothing explains", x.link(3, 4), -2);
        due("no such link", x.link(4, 4), NONE);
    }

    private static void wayAndPost() {
        CHECKS.promise("10 way, 11 post");
        FaultWays x = Checks.of(NET + "bad y;");
        dueRow("way 0", what -> x.way(0, what), 0, 3, 3);
        dueRow("way 1", what -> x.way(1, what), 2, 12, 3);
        dueRow("way 2", what -> x.way(2, what), 0, 1, 2);
        due("way, -1", x.way(0, -1), NONE);
        due("way(3, 0)", x.way(3, 0), NONE);
        due("way(-1, 0)", x.way(-1, 0), NONE);
        dueRow("posts of 0", i -> x.post(0, i), 0, 1, 2);
        dueRow("posts of 1", i -> x.post(1, i), 0, 2, 3);
        dueRow("posts of 2", i -> x.post(2, i), 0, 1);
        due("post, -1", x.post(0, -1), NONE);
        due("post(3, 0)", x.post(3, 0), NONE);
        due("post(MIN, 0)", x.post(MIN, 0), NONE);
    }

    private static void sets() {
        CHECKS.promise("12 sets");
        FaultWays x = Checks.of(NET + "bad x;");
        // of links 0, 1 one at least, of 2, 3 any: 2 alone; with two: {01} and 2 * 2
        int[] want = {0, 2, 2 + 5, 2 + 5 + 4, 12, 12, 12, 12, 12, 12, 12, 12, 12};
        dueRow("sets", x::sets, want);
        due("sets(-1)", x.sets(-1), NONE);
        x.tell(1, 1);
        due("sets(12)", x.sets(12), 3);
        x.tell(0, 1);
        due("sets(12)", x.sets(12), 1);
        x.tell(2, 2);
        due("nothing explains", x.sets(12), 0);
    }

    private static void lean() {
        CHECKS.promise("13 lean");
        FaultWays x = Checks.of(CHAIN + "way p a b c d;way q c d e;way r b c;bad p;bad q;");
        // p has 0 1 2, q has 2 3: {2}, {0 3}, {1 3}
        due("lean", x.lean(NONE), 3);
        dueRow("lean", x::lean, 4, 9, 10);
        due("the first has one", x.count(13), 1);
        x.tell(2, 2);
        // r has 1: {1 2}, {1 3}
        due("lean", x.lean(NONE), 2);
        dueRow("lean", x::lean, 6, 10);
        x.tell(0, 1);
        due("lean", x.lean(NONE), 0);
        due("lean(0)", x.lean(0), NONE);
        due("the first has", x.count(13), -2);
        FaultWays y = Checks.of(NET);
        due("lean", y.lean(NONE), 1);
        dueRow("lean", y::lean, 0);
        FaultWays z = Checks.of(ALONE);
        for (int way = 0; way < 12; way++) {
            z.tell(way, 2);
        }
        dueRow("all twelve", z::lean, 4095);
    }

    private static void explains() {
        CHECKS.promise("14 explains");
        FaultWays x = Checks.of(CHAIN + "way p a b c d;way q c d e;way r a b;bad p;bad q;good r;");
        int[] want = {0, 0, 0, 0, 2, 0, 1, 0, 0, 0, 2, 0, 1, 0, 1, 0};
        dueRow("explains", x::explains, want);
        due("explains(-1)", x.explains(-1), NONE);
        x.tell(2, 2);
        due("nothing that has not 0", x.explains(4), 0);
        due("explains(5)", x.explains(5), 2);
        due("explains(15)", x.explains(15), 1);
    }

    private static void likeliest() {
        CHECKS.promise("15 likeliest");
        FaultWays x = Checks.of("post a;post b;post c;link a b 4;link b c 5;way w a b c;");
        due("of alike ones the least number", x.likeliest(), 0);
        x.tell(0, 2);
        // {0} 4*5, {1} 6*5, {01} 4*5
        due("bad", x.likeliest(), 2);
        x.tell(0, 1);
        due("good", x.likeliest(), 0);
        FaultWays y = Checks.of("post a;post b;post c;link a b 9;link b c 6;way w a b c;way v a b c;good w;bad v;");
        due("nothing explains", y.likeliest(), -2);
        y.tell(0, 0);
        due("both", y.likeliest(), 3);
    }

    private static void weight() {
        CHECKS.promise("16 weight");
        FaultWays x = Checks.of("post a;post b;post c;link a b 4;link b c 7;way w a b c;");
        due("all", x.weight(NONE), 100);
        due("of 0", x.weight(0), 40);
        due("of 1", x.weight(1), 70);
        due("of 2", x.weight(2), NONE);
        due("of -2", x.weight(-2), NONE);
        due("of MIN", x.weight(MIN), NONE);
        x.tell(0, 2);
        due("all", x.weight(NONE), 82);
        due("of 0", x.weight(0), 40);
        x.tell(0, 1);
        due("all", x.weight(NONE), 18);
        due("of 0", x.weight(0), 0);
        x.lay(0, 1, 0);
        x.tell(1, 2);
        due("nothing explains", x.weight(NONE), 0);
        FaultWays y = Checks.of(TWELVE);
        due("all of twelve", y.weight(NONE), 1000000000000L);
        due("of one of twelve", y.weight(11), 900000000000L);
        due("likeliest of twelve", y.likeliest(), 4095);
    }

    private static void cheapest() {
        CHECKS.promise("17 cheapest");
        String two = "post a;post b;post c;link a b 4;link b c 4;way w a b c;way v a b c;";
        FaultWays x = Checks.of(two + "bad w;good v;price 6;");
        // empty: 6; {0}, {1}: 6 and 6; {01}: 12 and 6
        dueRow("cheapest", x::cheapest, 0, 6, 1, 1);
        due("cheapest(-1)", x.cheapest(-1), NONE);
        FaultWays y = Checks.of(two + "bad w;bad v;price 3;");
        // empty: 6; {0}, {1}: 6; {01}: 12
        dueRow("of the fewest links", y::cheapest, 0, 6, 3, 3);
        FaultWays z = Checks.of(two + "bad w;bad v;price 4;");
        dueRow("of the least number", z::cheapest, 1, 6, 0, 2);
        FaultWays u = Checks.of("post a;post b;post c;link a b 1;link b c 9;way w a b;way v b c;bad w;bad v;price 10;");
        // empty 20, {0} 9+10, {1} 1+10, {01} 10
        dueRow("both", u::cheapest, 3, 10, 0, 1);
        FaultWays m = Checks.of("post a;post b;post c;link a b 7;link b c 7;link a c 4;way w a c;way v a b c;bad w;good v;way u b a c;bad u;"
            + "way s c b a;way t a b;bad t;price 99;");
        // t and w want 0 and 2 in, v wants 0 and 1 out: {2} costs 6 + 99, {02} 9 + 99; v, u and w are met by {2}
        dueRow("one wrong", m::cheapest, 4, 105, 1 << 4, 1);
    }

    private static void disbelieved() {
        CHECKS.promise("18 disbelieved");
        FaultWays x = Checks.of(NET + "bad x;");
        due("none", x.disbelieved(NONE), 0);
        dueRow("none", x::disbelieved);
        FaultWays y = Checks.of(CHAIN + "way p a b;way q a b;way r a b;way s c d;way t c d;way u d e;bad p;good q;good r;good s;bad t;");
        // p against q, r: p; s against t: s before t
        due("two", y.disbelieved(NONE), 2);
        dueRow("two", y::disbelieved, 0, 3);
        y.tell(3, 2);
        due("one", y.disbelieved(NONE), 1);
        dueRow("one", y::disbelieved, 0);
        y.tell(0, 1);
        y.tell(3, 1);
        dueRow("one", y::disbelieved, 3);
    }

    private static void blamed() {
        CHECKS.promise("19 blamed");
        FaultWays x = Checks.of(NET + "bad x;");
        due("the empty set", x.blamed(NONE), 1);
        due("in it", x.blamed(0), 0);
        due("blamed(3)", x.blamed(3), NONE);
        due("blamed(-2)", x.blamed(-2), NONE);
        FaultWays y = Checks.of(CHAIN + "way p a b;way q a b;way r a b;way s c d;way t c d;way u d e;bad p;good q;good r;good s;bad t;");
        // {p s}, {p t}
        int[] want = {2, 0, 0, 1, 1, 0};
        due("all", y.blamed(NONE), 2);
        dueRow("blamed", y::blamed, want);
        y.tell(2, 0);
        // {p or q} and {s or t}
        due("all", y.blamed(NONE), 4);
        dueRow("blamed", y::blamed, 2, 2, 0, 2, 2, 0);
    }

    private static void level() {
        CHECKS.promise("20 level");
        due("nothing seen", Checks.of(CHAIN).level(), 0);
        due("one by one", Checks.of(CHAIN + "way p a b;way q b c;way r c d;way s d e;").level(), 4);
        due("up to how many are seen", Checks.of(CHAIN + "way p a b;way q b c;").level(), 2);
        due("twins", Checks.of(CHAIN + "way p a b c;way q c d;").level(), 0);
        due("{0 1} and {1}", Checks.of(CHAIN + "way p a b c;way q b c;").level(), 1);
        // traces: 0 {p}, 1 {p q}, 2 {q r}, 3 {r}: {0 2} and {1 2} and {1 3} are alike
        due("two at once are alike", Checks.of(CHAIN + "way p a b c;way q b c d;way r c d e;").level(), 1);
        // traces: 0 {p s}, 1 {q s}, 2 {r s}: of two each, unlike
        due("three alone and together", Checks.of(CHAIN + "way p a b;way q b c;way r c d;way s a b c d;").level(), 3);
        // 0 {p q}, 1 {q r}, 2 {r p}: pairs are all alike, and as all three
        FaultWays x = Checks.of("post a;post b;post c;link a b 1;link b c 1;link a c 1;way p b a c;way q a b c;way r b c a;");
        due("pairs alike", x.level(), 1);
        due("all twelve", Checks.of(ALONE).level(), 12);
    }

    private static void twin() {
        CHECKS.promise("21 twin");
        FaultWays x = Checks.of(CHAIN + "way p a b c;way q a b c;");
        dueRow("twin", x::twin, 1, 0, 3, 2);
        due("twin(-1)", x.twin(-1), NONE);
        FaultWays y = Checks.of(CHAIN + "way p a b c d;way q c d;");
        dueRow("twin", y::twin, 1, 0, -2, -2);
        dueRow("the lowest other", Checks.of(CHAIN)::twin, 1, 0, 0, 0);
    }

    private static void trace() {
        CHECKS.promise("22 trace");
        FaultWays x = Checks.of(NET);
        dueRow("trace", x::trace, 0, 5, 1, 5, 2, 7, 3, 7, 2, 7, 3, 7, 2, 7, 3, 7);
        due("trace(-1)", x.trace(-1), NONE);
        due("trace(0) of nothing", new FaultWays().trace(0), 0);
    }

    private static void choice() {
        CHECKS.promise("23 choice");
        FaultWays x = Checks.of(CHAIN + "way p a b;way q b c;way r a b c;way s c d;way t b c d;");
        // all seen: 0 1 2; {r s}, {p t}, {r t}: p t is first
        due("how many", x.choice(0, NONE), 2);
        dueRow("which", i -> x.choice(0, i), 0, 4);
        // apart: 0 in p r, 1 in q r t, 2 in s t; {p q} leaves 2 empty; {p t}: 1 and 2 alike; {r t}: 0 {r}, 1 {r t}, 2 {t}
        due("how many", x.choice(1, NONE), 2);
        dueRow("which", i -> x.choice(1, i), 2, 4);
        due("choice(2, -1)", x.choice(2, NONE), NONE);
        due("choice(-1, -1)", x.choice(-1, NONE), NONE);
        FaultWays y = Checks.of(CHAIN + "way p a b c d;way q a b c;");
        dueRow("twins need not be told apart", i -> y.choice(1, i), 0, 1);
        dueRow("one is enough", i -> y.choice(0, i), 0);
        due("nothing seen", Checks.of(CHAIN).choice(1, NONE), 0);
        FaultWays z = Checks.of(ALONE);
        dueRow("all twelve", i -> z.choice(0, i), 0, 1, 2, 3, 4, 5, 6, 7, 8, 9, 10, 11);
        dueRow("all twelve", i -> z.choice(1, i), 0, 1, 2, 3, 4, 5, 6, 7, 8, 9, 10, 11);
    }

    private static void after() {
        CHECKS.promise("24 after");
        FaultWays x = Checks.of(NET + "bad x;");
        due("after(0, true)", x.after(0, true), 4);
        due("after(0, false)", x.after(0, false), 12);
        due("after(1, true)", x.after(1, true), 3);
        due("after(1, false)", x.after(1, false), 9);
        due("after(2, true)", x.after(2, true), 4);
        due("after(2, false)", x.after(2, false), 8);
        due("after(3, true)", x.after(3, true), NONE);
        due("after(-1, false)", x.after(-1, false), NONE);
        due("nothing is told", x.way(1, 0), 0);
        x.tell(1, 1);
        due("in place of what it is", x.after(1, false), 9);
    }

    private static void next() {
        CHECKS.promise("25 next");
        FaultWays x = Checks.of(NET);
        // 0: 4 or 12; 1: 4 or 12; 2: 8 or 8
        due("next", x.next(), 2);
        x.tell(2, 1);
        // left 8: 0 by link 1: 4 or 4; 1: 2 or 6
        due("next", x.next(), 0);
        x.tell(0, 2);
        due("next", x.next(), 1);
        x.tell(1, 2);
        due("none", x.next(), -2);
        FaultWays y = Checks.of(NET + "good x;bad z;");
        due("nothing explains: the least", y.next(), 1);
        due("no ways", new FaultWays().next(), -2);
        due("of alike ones the least", Checks.of(CHAIN + "way p a b c;way q b c;way r a b;").next(), 1);
    }

    private static void tries() {
        CHECKS.promise("26 tries");
        FaultWays x = Checks.of(CHAIN + "way p a b;way q b c;way r c d;way s d e;way t a b c;");
        // none, 0, 1, 2, 3: behind p (or q) none, 1, 2, 3 take three tries more, behind r t halves none, 0, 1, 3
        due("tries", x.tries(false), 3);
        due("first", x.tries(true), 2);
        x.tell(4, 2);
        due("tries", x.tries(false), 1);
        due("first", x.tries(true), 0);
        x.tell(0, 2);
        due("one is left", x.tries(false), 0);
        due("first", x.tries(true), -2);
        x.tell(1, 2);
        due("no single explains", x.tries(false), 0);
        due("first", x.tries(true), -2);
        FaultWays y = Checks.of(CHAIN + "way p a b c;way q a b c;good q;");
        due("what is left is alike", y.tries(false), 0);
        y.tell(1, 2);
        due("twins", y.tries(false), 0);
        y.tell(1, 0);
        due("once", y.tries(false), 1);
        due("first", y.tries(true), 0);
        FaultWays z = Checks.of(CHAIN + "way p a b;way q b c;way r c d;way s d e;");
        due("one by one", z.tries(false), 4);
        due("first", z.tries(true), 0);
        FaultWays u = Checks.of(ALONE);
        due("twelve one by one, or none", u.tries(false), 12);
        due("first", u.tries(true), 0);
        for (int way = 0; way < 11; way++) {
            u.tell(way, 1);
        }
        due("the last", u.tries(false), 1);
        due("first", u.tries(true), 11);
    }

    private static void plan() {
        CHECKS.promise("27 plan");
        FaultWays x = Checks.of(NET + "eye d;eye a;eye a;");
        // a c d (2 3), a b c d (0 1 2)
        due("paths", x.count(17), 2);
        due("how many", x.plan(0, NONE), 2);
        dueRow("which", i -> x.plan(0, i), 0, 1);
        due("apart: 0 and 1 can't be", x.plan(1, NONE), 2);
        dueRow("which", i -> x.plan(1, i), 0, 1);
        due("plan(2, -1)", x.plan(2, NONE), NONE);
        due("plan(-1, 0)", x.plan(-1, 0), NONE);
        FaultWays y = Checks.of(CHAIN + "post f;link e f 1;eye a;eye e;");
        due("five posts", y.count(17), 1);
        dueRow("one", i -> y.plan(1, i), 0);
        FaultWays z = Checks.of(CHAIN + "post f;link e f 1;eye a;eye f;");
        due("six posts are too many", z.count(17), 0);
        due("none", z.plan(0, NONE), 0);
        due("none", z.plan(0, 0), NONE);
        due("one eye", Checks.of(FULL + "eye b;").plan(1, NONE), 0);
        FaultWays u = Checks.of(FULL + "eye a;eye b;");
        // ab: 0 | acb 1 3 | adb 2 4 | acdb 1 5 4 | adcb 2 5 3
        due("paths", u.count(17), 5);
        due("how many", u.plan(0, NONE), 3);
        dueRow("which", i -> u.plan(0, i), 0, 3, 4);
        due("seven at most can be told, six are here", u.plan(1, NONE), -2);
        FaultWays v = Checks.of(TWELVE + "eye a;eye b;eye c;eye h;");
        due("more than seven links to be told", v.plan(1, NONE), -2);
        due("whatever i is", u.plan(1, 7), -2);
        due("whatever i is", u.plan(1, -5), -2);
        due("but not what", u.plan(2, 0), NONE);
    }

    private static void planApart() {
        CHECKS.promise("27 plan, told apart");
        FaultWays x = Checks.of(CHAIN + "eye a;eye c;eye e;");
        // abc 0 1 | abcde 0 1 2 3 | cde 2 3
        due("paths", x.count(17), 3);
        dueRow("all", i -> x.plan(0, i), 1);
        dueRow("apart", i -> x.plan(1, i), 0, 1);
        FaultWays y = Checks.of("post a;post b;post c;post d;link a b 1;link b c 1;link b d 1;eye a;eye c;eye d;");
        // abc 0 1 | abd 0 2 | cbd 1 2
        dueRow("all", i -> y.plan(0, i), 0, 1);
        dueRow("apart", i -> y.plan(1, i), 0, 1);
        FaultWays z = Checks.of("post a;post b;post c;post d;post e;link a b 1;link a c 1;link a d 1;link a e 1;eye b;eye c;eye d;eye e;");
        // bc 0 1 | bd 0 2 | be 0 3 | cd 1 2 | ce 1 3 | de 2 3
        due("paths", z.count(17), 6);
        dueRow("all", i -> z.plan(0, i), 0, 5);
        dueRow("apart", i -> z.plan(1, i), 0, 1, 2);
        FaultWays u = Checks.of("post a;post b;post c;post d;post e;post f;post g;post h;link a b 1;link c d 1;link e f 1;link g h 1;"
            + "eye a;eye b;eye c;eye d;");
        dueRow("far apart", i -> u.plan(1, i), 0, 1);
    }

    /** By seed 31 the sets are 8, 8, 0, 2, 6, 4, 9, 0, 12, 3 (worked out apart from any Java). */
    private static final int[][] GUESSES = {{1, 0, 1, 0}, {2, 0, 2, 0}, {3, 1, 3, 0}, {4, 2, 4, 1}, {4, 3, 5, 2}, {4, 4, 6, 2},
        {5, 4, 7, 3}, {6, 5, 8, 3}, {6, 5, 8, 3}, {6, 5, 8, 4}};

    private static void guessesOf(FaultWays x) {
        for (int n = 1; n <= 10; n++) {
            for (int what = 0; what < 4; what++) {
                due("guess(" + n + ", " + what + ")", x.guess(n, what), GUESSES[n - 1][what]);
            }
        }
    }

    private static void guess() {
        CHECKS.promise("28 guess");
        FaultWays x = Checks.of(NET + "seed 31;");
        guessesOf(x);
        due("guess(0, 0)", x.guess(0, 0), NONE);
        due("guess(11, 0)", x.guess(11, 0), NONE);
        due("guess(-1, 0)", x.guess(-1, 0), NONE);
        due("guess(1, -1)", x.guess(1, -1), NONE);
        due("guess(1, 4)", x.guess(1, 4), NONE);
        due("nothing is told", x.count(7) | x.count(8), 0);
        x.tell(0, 1);
        guessesOf(x);
        FaultWays y = Checks.of(ALONE + "seed 14;");
        for (int what = 0; what < 3; what++) {
            due("each is alone on a way", y.guess(10, what), 10);
        }
        due("all are sure: 116 of 120 failed", y.guess(10, 3), 116);
        due("guess(10, 3) of nothing", new FaultWays().guess(10, 3), 0);
        due("guess(10, 0) of nothing", new FaultWays().guess(10, 0), 10);
    }

    private static void path() {
        CHECKS.promise("29 path");
        FaultWays x = Checks.of(FULL);
        int[][] want = {{0, 1}, {0, 2, 1}, {0, 3, 1}, {0, 2, 3, 1}, {0, 3, 2, 1}};
        due("how many", x.path(0, 1, NONE, NONE), 5);
        due("whatever k is", x.path(0, 1, NONE, 77), 5);
        for (int n = 0; n < want.length; n++) {
            int i = n;
            due("length", x.path(0, 1, i, NONE), want[i].length);
            dueRow("path " + i, k -> x.path(0, 1, i, k), want[i]);
        }
        dueRow("the other way round", k -> x.path(1, 0, 3, k), 1, 2, 3, 0);
        due("path 5", x.path(0, 1, 5, NONE), NONE);
        due("path -2", x.path(0, 1, -2, NONE), NONE);
        due("itself", x.path(2, 2, NONE, 0), NONE);
        due("no post", x.path(4, 0, NONE, 0), NONE);
        due("no post", x.path(0, -1, NONE, 0), NONE);
        due("none", Checks.of("post a;post b;").path(0, 1, NONE, 0), 0);
        String most = "post a;post b;post c;post d;post e;post f;link a c 1;link a d 1;link a e 1;link a f 1;link b c 1;link b d 1;"
            + "link b e 1;link b f 1;link c d 1;link d e 1;link e f 1;link f c 1;";
        // 4 of three posts, 8 of four, 8 of five, 8 of six
        FaultWays y = Checks.of(most);
        due("round a ring of four", y.path(0, 1, NONE, 0), 28);
        due("the last", y.path(0, 1, 27, NONE), 6);
        FaultWays z = Checks.of(CHAIN + "post f;post g;post h;link e f 1;link f g 1;link g h 1;");
        dueRow("eight posts", k -> z.path(0, 7, 0, k), 0, 1, 2, 3, 4, 5, 6, 7);
        dueRow("and back", k -> z.path(7, 0, 0, k), 7, 6, 5, 4, 3, 2, 1, 0);
    }

    private static void fresh() {
        CHECKS.promise("30 fresh");
        FaultWays x = Checks.of(FULL);
        due("one link halves", x.fresh(0, 1), 0);
        due("of those that halve the first", x.fresh(3, 2), 0);
        FaultWays y = Checks.of(FULL + "way p a b;way q c d a;good p;bad q;");
        // 0 is out, of 2, 5 one at least: of 24 sets ab leaves 24, acb 6/18, adb (2 4): 4/20, acdb (1 4 5): 2/22, adcb (2 3 5): 0/24
        due("known ones count", y.fresh(0, 1), 1);
        due("itself", y.fresh(1, 1), NONE);
        due("no post", y.fresh(0, 4), NONE);
        due("no post", y.fresh(-1, 0), NONE);
        due("no path", Checks.of("post a;post b;").fresh(0, 1), -2);
        FaultWays z = Checks.of(FULL + "way p a b;way q a b;good p;bad q;");
        due("nothing explains: the first", z.fresh(0, 1), 0);
    }

    private static void lost() {
        CHECKS.promise("31 lost");
        FaultWays x = Checks.of(NET);
        due("all", x.lost(0, 0), 15);
        due("without cd", x.lost(0, 4), 7);
        due("d alone", x.lost(3, 4), 8);
        due("without ab, bc", x.lost(1, 3), 2);
        due("without ab, ac", x.lost(3, 9), 14);
        due("without all", x.lost(2, 15), 4);
        due("no set", x.lost(0, 16), NONE);
        due("no set", x.lost(0, -1), NONE);
        due("no post", x.lost(4, 0), NONE);
        due("no post", x.lost(-1, 0), NONE);
        FaultWays y = Checks.of("link a b 1;link c b 1;link c d 1;link e d 1;link e f 1;link g f 1;link g h 1;"
            + "post h;post g;post f;post e;post d;post c;post b;post a;");
        due("far", y.lost(0, 0), 255);
        due("far", y.lost(7, 0), 255);
    }

    private static void split() {
        CHECKS.promise("32 split");
        FaultWays x = Checks.of(NET);
        dueRow("split", x::split, 1, 1, 1, 2, 2, 2, 2, 3, 1, 2, 2, 3, 2, 3, 3, 4);
        due("split(-1)", x.split(-1), NONE);
        due("posts without links", Checks.of("post a;post b;post c;").split(0), 3);
        due("no posts", new FaultWays().split(0), 0);
    }

    private static void hold() {
        CHECKS.promise("33 hold");
        FaultWays x = Checks.of(NET);
        due("hold(3)", x.hold(3), false);
        due("hold(-1)", x.hold(-1), false);
        due("hold(MAX)", x.hold(MAX), false);
        due("held", x.count(12), 0);
        due("hold(2)", x.hold(2), true);
        due("hold(2)", x.hold(2), true);
        due("held", x.count(12), 1);
        due("hold(0)", x.hold(0), true);
        due("hold(1)", x.hold(1), true);
        due("held", x.count(12), 3);
        x.tell(0, 2);
        due("what is done stays", x.count(11), 1);
        x.hold(1);
        due("what is done stays", x.count(11), 1);
    }

    private static void restore() {
        CHECKS.promise("34 restore");
        FaultWays x = Checks.of(NET);
        due("nothing held", x.restore(1), false);
        x.tell(0, 2);
        x.hold(1);
        x.lay(0, 3, 1);
        x.tell(3, 1);
        x.tell(0, 0);
        x.hold(2);
        due("restore(0)", x.restore(0), false);
        due("restore(3)", x.restore(3), false);
        due("restore(-1)", x.restore(-1), false);
        due("nothing happens", x.count(11), 4);
        due("restore(1)", x.restore(1), true);
        due("ways", x.count(2), 3);
        due("way 0", x.way(0, 0), 2);
        due("lean", x.lean(NONE), 2);
        due("trace", x.trace(2), 1);
        due("nothing can be undone", x.count(11), 0);
        due("undo", x.undo(), false);
        x.tell(0, 1);
        due("it stays there", x.restore(1), true);
        due("way 0", x.way(0, 0), 2);
        due("restore(2)", x.restore(2), true);
        due("ways", x.count(2), 4);
        due("way 3", x.way(3, 0), 1);
        due("its links", x.way(3, 1), 7);
        dueRow("its posts", i -> x.post(3, i), 0, 1, 2, 3);
        due("cleared", x.count(3), 7);
        due("trace", x.trace(2), 9);
        due("held", x.count(12), 2);
    }

    private static void count() {
        CHECKS.promise("35 count");
        FaultWays x = Checks.of(CHAIN + "way p a b c;way q b c d;way r d e;bad p;good r;bad q;eye e;eye b;eye b;price 9;seed 31;");
        // 3 is out; p has 0 1, q has 1 2: {1}, {0 2}
        int[] want = {5, 4, 3, 8, 0, 7, 0, 4, 3, 15, 0, 0, 0, 1, 18, 9, 31, 1};
        dueRow("count", x::count, want);
        due("count(-1)", x.count(-1), NONE);
        x.tell(0, 0);
        due("sure", x.count(4), 0);
        due("doubtful", x.count(5), 6);
        due("idle", x.count(6), 1);
        x.lay(1, 2, 0);
        x.tell(3, 2);
        due("sure", x.count(4), 2);
        due("doubtful", x.count(5), 0);
        due("idle", x.count(6), 5);
        x.tell(1, 1);
        due("cleared though nothing explains", x.count(3), 14);
        due("sure", x.count(4), 0);
        due("doubtful", x.count(5), 0);
        due("idle", x.count(6), 0);
        due("first lean", x.count(13), -2);
        due("done", x.count(11), 4);
        x.hold(2);
        due("slots", x.count(12), 1);
        x.feed(0, 0, 0, 0, 0);
        due("tape", x.count(10), 20);
    }

    /** No arguments make a call throw or change what it must not. */
    private static void anyArguments() {
        CHECKS.promise("all: odd arguments");
        int[] odd = {MIN, MIN + 1, -4097, -3, -2, 8, 12, 13, 31, 32, 33, 64, 4095, 4096, 1 << 30, MAX - 1, MAX};
        FaultWays x = Checks.of(NET);
        for (int a : odd) {
            due("link", x.link(a, 0), NONE);
            due("way", x.way(a, 0), NONE);
            due("post", x.post(a, 0), NONE);
            due("tell", x.tell(a, 1), false);
            due("lay", x.lay(a, 0, 0), NONE);
            due("lay", x.lay(0, a, 0), NONE);
            due("weight", x.weight(a), NONE);
            due("blamed", x.blamed(a), NONE);
            due("twin", x.twin(a), NONE);
            due("after", x.after(a, true), NONE);
            due("choice", x.choice(a, 0), NONE);
            due("plan", x.plan(a, 0), NONE);
            due("guess", x.guess(1, a), NONE);
            due("path", x.path(a, 0, 0, 0), NONE);
            due("path", x.path(0, a, 0, 0), NONE);
            due("path", x.path(0, 1, a, 0), NONE);
            due("path", x.path(0, 1, 0, a), NONE);
            due("fresh", x.fresh(a, 0), NONE);
            due("lost", x.lost(a, 0), NONE);
            due("hold", x.hold(a), false);
            due("restore", x.restore(a), false);
        }
        due("all is as it was", x.count(11) + x.count(12), 0);
    }
}
