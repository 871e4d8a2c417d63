/** The edges of what is asked of net, ways and outcomes: each test bears the document's words. */
final class EdgesTest {
    private static final int NONE = FaultWays.NONE;
    private static final int MIN = Integer.MIN_VALUE;
    private static final int MAX = Integer.MAX_VALUE;

    private static final String ONE = "post a;post b;link a b 3;way w a b;";
    /** Four ways of three links each, no link on two: 0 1 2, 3 4 5, 6 7 8, 9 10 11. */
    private static final String GROUPS = "post a;post b;post c;post d;post e;post f;post g;post h;link a b 1;link b c 1;link c d 1;"
        + "link e f 1;link f g 1;link g h 1;link a c 1;link c e 1;link e g 1;link b d 1;link d f 1;link f h 1;"
        + "way p a b c d;way q e f g h;way r a c e g;way s b d f h;";
    private static final String GROUPS_BAD = GROUPS + "bad p;bad q;bad r;bad s;";
    /** Links 0 cleared, 1 sure, 2 and 3 doubtful, 4 (ae) idle. */
    private static final String STATES = Nets.CHAIN + "link e a 1;way p a b;way q b c;way r c d e;good p;bad q;bad r;";

    private static final Checks CHECKS = new Checks();

    public static void main(String[] args) {
        link();
        states();
        noStates();
        way();
        post();
        sets();
        setsOfTwelve();
        lean();
        explains();
        explainsAtEdges();
        likeliest();
        weight();
        cheapest();
        cheapestByPrice();
        disbelieved();
        blamed();
        level();
        twin();
        trace();
        choice();
        after();
        next();
        tries();
        triesOfNothing();
        planOfPaths();
        planOfEyes();
        planOfSeven();
        planBehindAnother();
        guess();
        draws();
        guessWithoutWays();
        guessOfLean();
        guessOfSure();
        path();
        mostPaths();
        fresh();
        lost();
        split();
        count();
        countOfStates();
        noneAheadOfNothing();
        nothingExplains();
        onePostAlone();
        oneLinkAlone();
        oneWayAlone();
        CHECKS.end();
    }

    private static void due(String call, long got, long want) {
        CHECKS.due(call, got, want);
    }

    /** The same short way n times, of which the first ones are bad and all others good. */
    private static FaultWays twelveOfOne(int bad) {
        StringBuilder text = new StringBuilder("post a;post b;link a b 3;");
        for (int i = 0; i < 12; i++) {
            char name = (char) ('k' + i);
            text.append("way ").append(name).append(" a b;").append(i < bad ? "bad " : "good ").append(name).append(';');
        }
        return Checks.of(text.toString());
    }

    // ---- promises 9 to 11

    private static void link() {
        CHECKS.promise("9: NONE for others");
        FaultWays x = Checks.of(Nets.ALONE);
        CHECKS.dueRow("the first", what -> x.link(0, what), 0, 1, 9, 1, 3);
        CHECKS.dueRow("the last, its lesser post told last", what -> x.link(11, what), 6, 7, 9, 1 << 11, 3);
        for (int link : new int[] {MIN, -2, -1, 12, 13, 32, MAX}) {
            for (int what = -1; what <= 5; what++) {
                due("link(" + link + ", " + what + ")", x.link(link, what), NONE);
            }
        }
        for (int what : new int[] {MIN, -2, -1, 5, 6, MAX}) {
            due("link(0, " + what + ")", x.link(0, what), NONE);
        }
        FaultWays one = Checks.of(ONE);
        due("the only one", one.link(0, 2), 3);
        due("behind it", one.link(1, 2), NONE);
        CHECKS.promise("9: what 3 WAYS that have it (bits)");
        due("no way", Checks.of("post a;post b;link a b 3;").link(0, 3), 0);
        due("all twelve", twelveOfOne(0).link(0, 3), 4095);
    }

    private static void states() {
        CHECKS.promise("STATE: 0 CLEARED, 1 SURE, 2 DOUBTFUL, 3 IDLE");
        FaultWays x = Checks.of(STATES);
        int[] want = {0, 1, 2, 2, 3};
        for (int link = 0; link < 5; link++) {
            due("state of " + link, x.link(link, 4), want[link]);
        }
        x.tell(2, 1);
        due("cleared", x.link(2, 4), 0);
        due("the only lean set", x.link(1, 4), 1);
        due("in no lean set", x.link(4, 4), 3);
        x.tell(1, 0);
        due("the empty set is lean", x.link(1, 4), 3);
        due("cleared all the same", x.link(0, 4), 0);
        FaultWays y = Checks.of(Nets.CHAIN + "way p a b c;way q b c d;bad p;bad q;");
        // {1}, {0 2}
        due("in all lean sets but one", y.link(1, 4), 2);
        due("in one", y.link(0, 4), 2);
        y.tell(1, 0);
        // {0}, {1}
        due("in one of two", y.link(1, 4), 2);
        due("in none", y.link(2, 4), 3);
    }

    private static void noStates() {
        CHECKS.promise("9: 4 STATE (-2: nothing EXPLAINS)");
        FaultWays x = Checks.of(STATES + "way t a b;bad t;");
        for (int link = 0; link < 5; link++) {
            due("state of " + link, x.link(link, 4), -2);
            due("risk of " + link, x.link(link, 2), 1);
            due("link(" + link + ", 5)", x.link(link, 5), NONE);
        }
        due("no such link", x.link(5, 4), NONE);
        due("no such link", x.link(-1, 4), NONE);
        x.tell(3, 0);
        due("something explains again", x.link(0, 4), 0);
    }

    private static void way() {
        CHECKS.promise("10: NONE for others");
        FaultWays x = Checks.of(Nets.ALONE + "bad v;good k;");
        CHECKS.dueRow("the first", what -> x.way(0, what), 1, 1, 2);
        CHECKS.dueRow("the last", what -> x.way(11, what), 2, 1 << 11, 2);
        for (int way : new int[] {MIN, -2, -1, 12, 13, 32, MAX}) {
            for (int what = -1; what <= 3; what++) {
                due("way(" + way + ", " + what + ")", x.way(way, what), NONE);
            }
        }
        due("way(0, -1)", x.way(0, -1), NONE);
        due("behind the only one", Checks.of(ONE).way(1, 0), NONE);
        due("no way at all", Checks.of("post a;post b;link a b 1;").way(0, 0), NONE);
    }

    private static void post() {
        CHECKS.promise("11: The i-th POST of a WAY, from 0 on; NONE: no such ones");
        FaultWays x = Checks.of(Nets.CHAIN + "post f;post g;post h;link e f 1;link f g 1;link g h 1;way v h g f e d c b a;way w b a;");
        CHECKS.dueRow("a row of eight", i -> x.post(0, i), 7, 6, 5, 4, 3, 2, 1, 0);
        CHECKS.dueRow("a row of two", i -> x.post(1, i), 1, 0);
        due("how many of eight", x.way(0, 2), 8);
        due("how many of two", x.way(1, 2), 2);
        due("post(0, -1)", x.post(0, -1), NONE);
        due("post(1, -1)", x.post(1, -1), NONE);
        for (int way : new int[] {MIN, -2, -1, 2, 3, 12, MAX}) {
            due("post(" + way + ", 0)", x.post(way, 0), NONE);
        }
    }

    // ---- promises 12 to 17

    private static void sets() {
        CHECKS.promise("12: How many sets of n LINKS at most (0 .. 12) EXPLAIN; NONE: no such n");
        FaultWays x = Checks.of(ONE);
        due("sets(-1)", x.sets(-1), NONE);
        CHECKS.dueRow("of one link, also for more than there are", x::sets, 1, 2, 2, 2, 2, 2, 2, 2, 2, 2, 2, 2, 2);
        x.tell(0, 1);
        CHECKS.dueRow("good", x::sets, 1, 1, 1, 1, 1, 1, 1, 1, 1, 1, 1, 1, 1);
        x.tell(0, 2);
        CHECKS.dueRow("bad", x::sets, 0, 1, 1, 1, 1, 1, 1, 1, 1, 1, 1, 1, 1);
        x.lay(0, 1, 0);
        x.tell(1, 1);
        CHECKS.dueRow("both", x::sets, 0, 0, 0, 0, 0, 0, 0, 0, 0, 0, 0, 0, 0);
    }

    private static void setsOfTwelve() {
        CHECKS.promise("12: of twelve LINKS");
        FaultWays x = Checks.of(Nets.ALONE);
        CHECKS.dueRow("all", x::sets, 1, 13, 79, 299, 794, 1586, 2510, 3302, 3797, 4017, 4083, 4095, 4096);
        for (int way = 0; way < 12; way++) {
            x.tell(way, 2);
        }
        due("eleven", x.sets(11), 0);
        due("twelve", x.sets(12), 1);
        FaultWays y = Checks.of(GROUPS_BAD);
        due("three", y.sets(3), 0);
        due("four, one of each way", y.sets(4), 81);
        due("seven of eight sets on each way", y.sets(12), 2401);
    }

    private static void lean() {
        CHECKS.promise("13: LEAN sets: how many (i NONE), else the i-th; NONE: no such one");
        CHECKS.dueList("no outcome known: the empty one alone", Checks.of(GROUPS)::lean, 0);
        FaultWays x = Checks.of(GROUPS_BAD);
        due("how many", x.lean(NONE), 81);
        due("the first", x.lean(0), 1 + 8 + 64 + 512);
        due("the second", x.lean(1), 2 + 8 + 64 + 512);
        due("the last but one", x.lean(79), 2 + 32 + 256 + 2048);
        due("the last", x.lean(80), 4 + 32 + 256 + 2048);
        due("behind the last", x.lean(81), NONE);
        due("-2", x.lean(-2), NONE);
        CHECKS.dueList("all twelve", Checks.of(Nets.ALONE + "bad k;bad l;bad m;bad n;bad o;bad p;bad q;bad r;bad s;bad t;bad u;bad v;")::lean, 4095);
        CHECKS.dueList("nothing explains", twelveOfOne(1)::lean);
        CHECKS.promise("LEAN sets in order: of fewer LINKS ahead, of as many the one that is the lesser number");
        CHECKS.dueList("{2} is ahead of {0 1}", Checks.of("post a;post b;post c;post d;link a b 1;link c d 1;link b c 1;"
            + "way p a b c;way q b c d;bad p;bad q;")::lean, 4, 3);
    }

    private static void explains() {
        CHECKS.promise("14: Whether a set EXPLAINS: 1, and it is LEAN: 2, else 0; NONE: no such set");
        FaultWays x = Checks.of(GROUPS_BAD);
        due("the empty one", x.explains(0), 0);
        due("lean", x.explains(585), 2);
        due("one more", x.explains(587), 1);
        due("one less", x.explains(584), 0);
        due("all", x.explains(4095), 1);
        for (int set : new int[] {MIN, -585, -2, -1, 4096, 4096 + 585, MAX}) {
            due("explains(" + set + ")", x.explains(set), NONE);
        }
        due("of one link", Checks.of(ONE).explains(1), 1);
        due("behind it", Checks.of(ONE).explains(2), NONE);
        due("of no link", Checks.of("post a;").explains(0), 2);
        due("behind it", Checks.of("post a;").explains(1), NONE);
    }

    private static void explainsAtEdges() {
        CHECKS.promise("EXPLAINS all if no GOOD WAY has any of them and each BAD WAY has one at least");
        FaultWays x = Checks.of(Nets.CHAIN + "way p a b c;way q c d e;");
        due("no outcome known: each does", x.explains(15), 1);
        x.tell(0, 1);
        due("none of a good way", x.explains(12), 1);
        due("one of a good way", x.explains(13), 0);
        x.tell(1, 2);
        due("one of a bad way", x.explains(4), 2);
        due("the other of it", x.explains(8), 2);
        due("both of it", x.explains(12), 1);
        due("none of it", x.explains(0), 0);
        x.tell(0, 2);
        due("one bad way of two", x.explains(4), 0);
        due("both", x.explains(5), 2);
    }

    private static void likeliest() {
        CHECKS.promise("LIKELIEST: of the most WEIGHT, of alike ones the least number");
        String five = "post a;post b;post c;link a b 5;link b c 5;way w a b c;";
        due("all alike", Checks.of(five).likeliest(), 0);
        due("bad: 1, 2, 3 are alike", Checks.of(five + "bad w;").likeliest(), 1);
        for (int risk = 1; risk <= 9; risk++) {
            String text = "post a;post b;link a b " + risk + ";";
            due("risk " + risk, Checks.of(text).likeliest(), risk > 5 ? 1 : 0);
        }
        CHECKS.promise("15: LIKELIEST; -2: nothing EXPLAINS");
        due("nothing", twelveOfOne(1).likeliest(), -2);
        due("nothing", twelveOfOne(11).likeliest(), -2);
        due("all bad", twelveOfOne(12).likeliest(), 1);
        due("all good", twelveOfOne(0).likeliest(), 0);
        due("no links", Checks.of("post a;").likeliest(), 0);
    }

    private static void weight() {
        CHECKS.promise("16: WEIGHTS of all sets that EXPLAIN (link NONE), else of those that have a LINK, added; NONE: no such one");
        FaultWays x = Checks.of(GROUPS_BAD);
        due("all", x.weight(NONE), 271L * 271 * 271 * 271);
        due("the first", x.weight(0), 100L * 271 * 271 * 271);
        due("the last", x.weight(11), 100L * 271 * 271 * 271);
        for (int link : new int[] {MIN, -2, 12, 13, 32, MAX}) {
            due("weight(" + link + ")", x.weight(link), NONE);
        }
        due("more than an int", Checks.of(Nets.TWELVE).weight(NONE), 1000000000000L);
        due("of the last", Checks.of(Nets.TWELVE).weight(11), 900000000000L);
        due("no links: the empty set weighs 1", Checks.of("post a;").weight(NONE), 1);
        due("no such one", Checks.of("post a;").weight(0), NONE);
        FaultWays y = twelveOfOne(1);
        due("nothing explains", y.weight(NONE), 0);
        due("nothing explains", y.weight(0), 0);
        due("no such one", y.weight(1), NONE);
        due("cleared", Checks.of(ONE + "good w;").weight(0), 0);
        due("sure", Checks.of(ONE + "bad w;").weight(0), 3);
        due("sure, so all", Checks.of(ONE + "bad w;").weight(NONE), 3);
    }

    private static void cheapest() {
        CHECKS.promise("17: CHEAPEST: what 0 the set, 1 its COST, 2 WAYS, 3 how many sets have that COST. NONE for others");
        FaultWays x = Checks.of(GROUPS_BAD + "price 10;");
        CHECKS.dueRow("price 10: a link of each", x::cheapest, 585, 36, 0, 81);
        due("cheapest(-1)", x.cheapest(NONE), NONE);
        CHECKS.dueRow("price 9: the fewest links", Checks.of(GROUPS_BAD + "price 9;")::cheapest, 0, 36, 15, 256);
        CHECKS.dueRow("price 8: none", Checks.of(GROUPS_BAD + "price 8;")::cheapest, 0, 32, 15, 1);
        CHECKS.dueRow("price 20", Checks.of(GROUPS_BAD)::cheapest, 585, 36, 0, 81);
        CHECKS.dueRow("no links", Checks.of("post a;")::cheapest, 0, 0, 0, 1);
        CHECKS.dueRow("no ways", Checks.of(Nets.TWELVE)::cheapest, 0, 0, 0, 1);
        CHECKS.dueRow("none known", Checks.of(GROUPS + "price 1;")::cheapest, 0, 0, 0, 1);
    }

    private static void cheapestByPrice() {
        CHECKS.promise("COST: 10 less its RISK, and PRICE for each WAY whose known OUTCOME is another one; alike: the fewest LINKS");
        for (int risk = 1; risk <= 9; risk++) {
            int toll = 10 - risk;
            String text = "post a;post b;link a b " + risk + ";way w a b;bad w;price ";
            CHECKS.dueRow("one more than " + toll, Checks.of(text + (toll + 1) + ";")::cheapest, 1, toll, 0, 1);
            CHECKS.dueRow("as much as " + toll, Checks.of(text + toll + ";")::cheapest, 0, toll, 1, 2);
            if (toll > 1) {
                CHECKS.dueRow("one less than " + toll, Checks.of(text + (toll - 1) + ";")::cheapest, 0, toll - 1, 1, 1);
            }
        }
        // with a link: 7 and 20 for each good one; without: 20 for each bad one
        CHECKS.dueRow("six bad, six good", twelveOfOne(6)::cheapest, 0, 120, 63, 1);
        CHECKS.dueRow("seven bad, five good", twelveOfOne(7)::cheapest, 1, 107, 4095 & ~127, 1);
        CHECKS.dueRow("all bad", twelveOfOne(12)::cheapest, 1, 7, 0, 1);
        CHECKS.dueRow("all good", twelveOfOne(0)::cheapest, 0, 0, 0, 1);
        CHECKS.promise("CHEAPEST: of alike ones that of the fewest LINKS");
        // {0 1} costs 2 and 2, {2} costs 4
        CHECKS.dueRow("{2}, though it is the greater number", Checks.of("post a;post b;post c;post d;link a b 8;link c d 8;link b c 6;"
            + "way p a b c;way q b c d;bad p;bad q;")::cheapest, 4, 4, 0, 2);
        CHECKS.promise("CHEAPEST: of these the least number");
        CHECKS.dueRow("1 and 2 cost the same", Checks.of("post a;post b;post c;link a b 4;link b c 4;way w a b c;bad w;price 7;")::cheapest,
            1, 6, 0, 2);
    }

    // ---- promises 18 to 23

    private static void disbelieved() {
        CHECKS.promise("DISBELIEVED: the fewest WAYS (none if there is one); the least first");
        for (int bad = 0; bad <= 12; bad++) {
            int few = Math.min(bad, 12 - bad);
            int[] want = new int[few];
            for (int i = 0; i < few; i++) {
                want[i] = bad <= 6 ? i : bad + i;
            }
            CHECKS.dueList(bad + " bad", twelveOfOne(bad)::disbelieved, want);
        }
        CHECKS.dueList("none known", Checks.of(GROUPS)::disbelieved);
        CHECKS.dueList("no ways", Checks.of("post a;")::disbelieved);
        CHECKS.promise("of as few those of which the first one is least, then the second");
        // q, r on 1 against each other, p, s on 0 against each other
        String two = Nets.CHAIN + "way p a b;way q b c;way r b c;way s a b;";
        CHECKS.dueList("p and q", Checks.of(two + "good p;bad q;good r;bad s;")::disbelieved, 0, 1);
        CHECKS.dueList("p alone", Checks.of(two + "bad p;bad q;bad r;good s;")::disbelieved, 0);
        CHECKS.dueList("q alone", Checks.of(two + "bad p;good q;bad r;bad s;")::disbelieved, 1);
        // a b c is good, so both links are cleared: p and q go, or it does
        CHECKS.dueList("one rather than two", Checks.of(Nets.CHAIN + "way p a b;way q b c;way r a b c;bad p;bad q;good r;")::disbelieved, 2);
    }

    private static void blamed() {
        CHECKS.promise("19: In how many sets one is; of all such sets (way NONE) how many there are; NONE: no such one");
        for (int bad = 0; bad <= 12; bad++) {
            FaultWays x = twelveOfOne(bad);
            due("all, " + bad + " bad", x.blamed(NONE), bad == 6 ? 2 : 1);
            due("a bad one", x.blamed(0), bad > 0 && bad <= 6 ? 1 : 0);
            due("a good one", x.blamed(11), bad < 12 && bad >= 6 ? 1 : 0);
            for (int way : new int[] {MIN, -2, 12, 13, 32, MAX}) {
                due("blamed(" + way + ")", x.blamed(way), NONE);
            }
        }
        CHECKS.promise("19: all of a known OUTCOME");
        FaultWays y = Checks.of(ONE + "way v a b;way u a b;bad w;good v;");
        due("all", y.blamed(NONE), 2);
        CHECKS.dueRow("one not known is in none", y::blamed, 1, 1, 0);
        FaultWays z = Checks.of(ONE);
        due("none known", z.blamed(NONE), 1);
        CHECKS.dueRow("none known", z::blamed, 0);
    }

    private static void level() {
        CHECKS.promise("LEVEL: the greatest n, up to how many LINKS are SEEN");
        due("no links", Checks.of("post a;").level(), 0);
        due("none seen", Checks.of("post a;post b;link a b 1;").level(), 0);
        due("one seen", Checks.of(ONE).level(), 1);
        due("one of four seen", Checks.of(Nets.CHAIN + "way p a b;").level(), 1);
        due("two seen apart", Checks.of(Nets.CHAIN + "way p a b;way q d e;").level(), 2);
        due("two seen as one", Checks.of(Nets.CHAIN + "way p a b c;").level(), 0);
        due("two, one within the other", Checks.of(Nets.CHAIN + "way p a b c;way q a b;").level(), 1);
        due("eleven seen apart", Checks.of(Nets.ALONE.replace("way v h g;", "")).level(), 11);
        due("twelve seen apart", Checks.of(Nets.ALONE).level(), 12);
        due("twelve, two of them always as one", Checks.of(Nets.ALONE.replace("way u b g;way v h g;", "way u b g h;")).level(), 0);
        due("groups", Checks.of(GROUPS).level(), 0);
        CHECKS.promise("any two unlike sets of SEEN LINKS, each of n at most");
        // 0 {p}, 1 {q}, 2 {p q r}: {2} is as {0 2}: two at most are not told apart
        due("one in all", Checks.of("post a;post b;post c;post d;link a b 1;link c d 1;link b c 1;"
            + "way p a b c;way q b c d;way r b c;").level(), 1);
    }

    private static void twin() {
        CHECKS.promise("21: The lowest other LINK of which one is a TWIN; -2: of none; NONE: no such one");
        CHECKS.dueRow("groups", Checks.of(GROUPS)::twin, 1, 0, 0, 4, 3, 3, 7, 6, 6, 10, 9, 9);
        CHECKS.dueRow("each alone", Checks.of(Nets.ALONE)::twin, -2, -2, -2, -2, -2, -2, -2, -2, -2, -2, -2, -2);
        CHECKS.dueRow("no ways", Checks.of(Nets.TWELVE)::twin, 1, 0, 0, 0, 0, 0, 0, 0, 0, 0, 0, 0);
        CHECKS.dueRow("one link alone", Checks.of(ONE)::twin, -2);
        CHECKS.dueRow("one link, no way", Checks.of("post a;post b;link a b 1;")::twin, -2);
        CHECKS.dueRow("one of four not seen", Checks.of(Nets.CHAIN + "way p a b c d;way q a b c;")::twin, 1, 0, -2, -2);
        due("twin(-1)", Checks.of(GROUPS).twin(NONE), NONE);
        due("no links", Checks.of("post a;").twin(0), NONE);
    }

    private static void trace() {
        CHECKS.promise("22: TRACE of a set (bits of LINKS), as bits; NONE: no such set");
        FaultWays x = Checks.of(Nets.ALONE);
        due("the empty set", x.trace(0), 0);
        due("the first", x.trace(1), 1);
        due("the last", x.trace(2048), 2048);
        due("all", x.trace(4095), 4095);
        for (int set : new int[] {MIN, -2, -1, 4096, 4097, 8191, MAX}) {
            due("trace(" + set + ")", x.trace(set), NONE);
        }
        due("not seen", Checks.of(Nets.TWELVE).trace(4095), 0);
        due("no links", Checks.of("post a;").trace(0), 0);
        due("no such set", Checks.of("post a;").trace(1), NONE);
        due("of one", twelveOfOne(3).trace(1), 4095);
    }

    private static void choice() {
        CHECKS.promise("23: CHOICE (what 0, 1): how many (i NONE), else the i-th; NONE: no such ones");
        FaultWays all = Checks.of(Nets.ALONE);
        FaultWays one = Checks.of(ONE);
        FaultWays alike = twelveOfOne(6);
        for (int w = 0; w <= 1; w++) {
            int what = w;
            CHECKS.dueList("all twelve", i -> all.choice(what, i), 0, 1, 2, 3, 4, 5, 6, 7, 8, 9, 10, 11);
            CHECKS.dueList("one", i -> one.choice(what, i), 0);
            CHECKS.dueList("one of twelve", i -> alike.choice(what, i), 0);
            CHECKS.dueList("no ways", i -> Checks.of(Nets.TWELVE).choice(what, i));
            CHECKS.dueList("groups", i -> Checks.of(GROUPS).choice(what, i), 0, 1, 2, 3);
        }
        for (int what : new int[] {MIN, -2, -1, 2, 3, MAX}) {
            due("choice(" + what + ", NONE)", all.choice(what, NONE), NONE);
            due("choice(" + what + ", 0)", all.choice(what, 0), NONE);
        }
        CHECKS.promise("CHOICE (what 1): unlike by all WAYS are unlike, and none of a SEEN LINK is empty");
        FaultWays x = Checks.of(Nets.CHAIN + "way p a b;way q a b c;");
        // q has both links, p tells them apart; p alone leaves 1 empty
        CHECKS.dueList("all seen", i -> x.choice(0, i), 1);
        CHECKS.dueList("and apart", i -> x.choice(1, i), 0, 1);
        FaultWays z = Checks.of(Nets.CHAIN + "way p a b c;way q a b;");
        CHECKS.dueList("all seen", i -> z.choice(0, i), 0);
        CHECKS.dueList("and apart", i -> z.choice(1, i), 0, 1);
        FaultWays u = Checks.of(Nets.CHAIN + "way p a b c;way q b c;");
        CHECKS.dueList("all seen", i -> u.choice(0, i), 0);
        CHECKS.dueList("and apart", i -> u.choice(1, i), 0, 1);
        FaultWays v = Checks.of(Nets.ALONE.replace("way v h g;", "way v b g h;"));
        CHECKS.dueList("u has what v has", i -> v.choice(0, i), 0, 1, 2, 3, 4, 5, 6, 7, 8, 9, 11);
        CHECKS.dueList("u tells the last two of twelve apart", i -> v.choice(1, i), 0, 1, 2, 3, 4, 5, 6, 7, 8, 9, 10, 11);
        CHECKS.promise("CHOICE: in order as above");
        FaultWays y = Checks.of(Nets.CHAIN + "way p b c;way q a b c;way r a b;way s b c d;way t d c b a;");
        // all of 0 1 2: t alone; apart: 0 {q r t}, 1 {p q s t}, 2 {s t}: {p q} leaves 2 empty, {q s}: 0 {q}, 1 {q s}, 2 {s}
        CHECKS.dueList("one", i -> y.choice(0, i), 4);
        CHECKS.dueList("two", i -> y.choice(1, i), 1, 3);
    }

    // ---- promises 24 to 28

    private static void after() {
        CHECKS.promise("24: if the OUTCOME of a WAY were GOOD, else BAD, in place of what it is; NONE: no such one");
        for (int bad = 0; bad <= 12; bad++) {
            FaultWays x = twelveOfOne(bad);
            due("the first good, " + bad + " bad", x.after(0, true), bad <= 1 ? 1 : 0);
            due("the first bad", x.after(0, false), bad == 12 ? 1 : 0);
            due("the last good", x.after(11, true), bad == 0 ? 1 : 0);
            due("the last bad", x.after(11, false), bad >= 11 ? 1 : 0);
            due("is not told", x.count(8), (1 << bad) - 1);
        }
        FaultWays y = Checks.of(Nets.ALONE);
        due("the last", y.after(11, true), 2048);
        for (int way : new int[] {MIN, -2, -1, 12, 13, 32, MAX}) {
            due("after(" + way + ", true)", y.after(way, true), NONE);
            due("after(" + way + ", false)", y.after(way, false), NONE);
        }
    }

    private static void next() {
        CHECKS.promise("25: NEXT; -2: there is none");
        due("no ways", Checks.of(Nets.TWELVE).next(), -2);
        due("all known", Checks.of(GROUPS_BAD).next(), -2);
        due("all known, nothing explains", twelveOfOne(5).next(), -2);
        FaultWays x = Checks.of(GROUPS_BAD);
        x.tell(3, 0);
        due("one alone", x.next(), 3);
        FaultWays y = Checks.of(Nets.ALONE);
        due("all alike: the least", y.next(), 0);
        for (int way = 0; way < 11; way++) {
            y.tell(way, 1 + way % 2);
            due("the least not known", y.next(), way + 1);
        }
        FaultWays z = twelveOfOne(5);
        z.tell(7, 0);
        z.tell(9, 0);
        due("nothing explains: all leave 0, the least", z.next(), 7);
        CHECKS.promise("NEXT: the OUTCOME that leaves more leaves fewest");
        due("three links leave 7 of 8, two 6 of 8, one 4 of 8",
            Checks.of(Nets.CHAIN + "way p a b c d;way q a b c;way r b c;").next(), 2);
        // 1 good: of 0 2 3 free, p leaves 4 and 4 as r would
        due("of alike ones the least", Checks.of(Nets.CHAIN + "way p a b c;way q b c;way r a b;good q;").next(), 0);
        // p has all four links: BAD leaves 15 sets, GOOD the empty one alone; r leaves 8 either way
        due("a way of all links, bad, leaves most", Checks.of(Nets.CHAIN + "way p a b c d e;way r b c;").next(), 1);
        due("a way of all links alone", Checks.of(Nets.CHAIN + "way p a b c d e;way r b c;good r;").next(), 0);
    }

    private static void tries() {
        CHECKS.promise("TRIES: how many tries there are at most; FIRST: the WAY that can be tried first so, the least one");
        FaultWays x = Checks.of(Nets.CHAIN + "way p a b c;way q b c d;");
        // none and 3 are alike; 0 {p}, 1 {p q}, 2 {q}
        due("four kinds by two", x.tries(false), 2);
        due("first", x.tries(true), 0);
        x.tell(0, 1);
        due("two kinds", x.tries(false), 1);
        due("first", x.tries(true), 1);
        x.tell(1, 1);
        due("one kind", x.tries(false), 0);
        due("first", x.tries(true), -2);
        FaultWays y = Checks.of(Nets.ALONE);
        for (int way = 0; way < 12; way++) {
            due("one by one, or none", y.tries(false), 12 - way);
            due("first", y.tries(true), way);
            y.tell(way, 1);
        }
        due("none is left but the empty set", y.tries(false), 0);
        due("first", y.tries(true), -2);
        CHECKS.promise("TRIES: chosen so that this is least");
        FaultWays best = Checks.of(Nets.CHAIN + "way p a b;way q a b c;way r b c d;");
        // 0 {p q}, 1 {q r}, 2 {r}, none: q and r halve them, p leaves three that take two tries more
        due("two", best.tries(false), 2);
        due("q", best.tries(true), 1);
        best.tell(1, 2);
        due("0 and 1 are left", best.tries(false), 1);
        due("p", best.tries(true), 0);
        CHECKS.promise("TRIES: alike WAYS: the least one");
        FaultWays z = Checks.of(ONE + "way v b a;way u a b;");
        due("tries", z.tries(false), 1);
        due("first", z.tries(true), 0);
        FaultWays idle = Checks.of(Nets.CHAIN + "way p a b;way q b c;good p;way r a b;");
        due("r tells nothing more, q does", idle.tries(true), 1);
        due("one", idle.tries(false), 1);
    }

    private static void triesOfNothing() {
        CHECKS.promise("26: -2: nothing is to be tried");
        String[] texts = {"", "post a;post b;link a b 1;", Nets.TWELVE, GROUPS_BAD, GROUPS + "bad p;bad q;", ONE + "good w;", ONE + "bad w;",
            Nets.CHAIN + "way p a b c d e;bad p;way q b c;bad q;", Nets.CHAIN + "way p a b c;way q a b c;bad p;"};
        for (String text : texts) {
            due("tries of " + text, Checks.of(text).tries(false), 0);
            due("first of " + text, Checks.of(text).tries(true), -2);
        }
        FaultWays x = twelveOfOne(5);
        x.tell(0, 0);
        due("nothing explains", x.tries(false), 0);
        due("nothing explains", x.tries(true), -2);
    }

    /** Two eyes and n posts between them: so many paths, no link on two. */
    private static String between(int n) {
        StringBuilder text = new StringBuilder("post a;post b;eye a;eye b;");
        for (int i = 0; i < n; i++) {
            char post = (char) ('c' + i);
            text.append("post ").append(post).append(";link a ").append(post).append(" 1;link b ").append(post).append(" 1;");
        }
        return text.toString();
    }

    private static void planOfPaths() {
        for (int n = 0; n <= 6; n++) {
            CHECKS.promise("27: PLAN: how many (i NONE), else the i-th. -2: more than 3 would be needed (whatever i is)");
            FaultWays x = Checks.of(between(n));
            due("paths", x.count(17), n);
            for (int w = 0; w <= 1; w++) {
                int what = w;
                int[] want = new int[Math.min(n, 3)];
                for (int i = 0; i < want.length; i++) {
                    want[i] = i;
                }
                if (n <= 3) {
                    CHECKS.dueList(n + " needed", i -> x.plan(what, i), want);
                } else {
                    for (int i : new int[] {MIN, -2, NONE, 0, 1, 2, 3, 4, MAX}) {
                        due("plan(" + what + ", " + i + ") of " + n, x.plan(what, i), -2);
                    }
                }
            }
            CHECKS.promise("27: NONE: no such ones");
            for (int what : new int[] {MIN, -2, -1, 2, 3, MAX}) {
                due("plan(" + what + ", NONE) of " + n, x.plan(what, NONE), NONE);
                due("plan(" + what + ", 0) of " + n, x.plan(what, 0), NONE);
            }
        }
    }

    private static void planOfEyes() {
        CHECKS.promise("PLAN: all PATHS of 5 POSTS at most of two EYES");
        String six = Nets.CHAIN + "post f;link e f 1;";
        int[][] want = {{0, 1, 1}, {0, 3, 1}, {0, 4, 1}, {0, 5, 0}, {1, 5, 1}};
        for (int[] row : want) {
            FaultWays x = Checks.of(six + "eye " + (char) ('a' + row[1]) + ";eye " + (char) ('a' + row[0]) + ";");
            due("paths", x.count(17), row[2]);
            due("plan", x.plan(0, NONE), row[2]);
            due("plan", x.plan(1, NONE), row[2]);
            due("the first", x.plan(1, 0), row[2] == 1 ? 0 : NONE);
        }
        CHECKS.promise("PLAN: fewer than two EYES");
        for (String text : new String[] {"", Nets.FULL, Nets.FULL + "eye a;", Nets.FULL + "eye c;eye c;eye c;eye c;"}) {
            FaultWays x = Checks.of(text);
            due("paths", x.count(17), 0);
            CHECKS.dueList("plan", i -> x.plan(0, i));
            CHECKS.dueList("plan", i -> x.plan(1, i));
        }
        CHECKS.promise("PLAN: by the lesser EYE, then by the other one, then in their order");
        FaultWays y = Checks.of(Nets.CHAIN + "eye e;eye d;eye a;eye b;");
        // ab 0 | ad 0 1 2 | ae 0 1 2 3 | bd 1 2 | be 1 2 3 | de 3
        due("paths", y.count(17), 6);
        CHECKS.dueList("all", i -> y.plan(0, i), 2);
        // 1 and 2 are always as one; 0, 1, 3 by ab and be: 0 {ab}, 1 {be}, 3 {be}; by ad and be: 0 {ad}, 1 {ad be}, 3 {be}
        CHECKS.dueList("apart: by ab and ad 3 is empty, by ab and ae 1 and 3 are alike", i -> y.plan(1, i), 1, 4);
    }

    private static void planBehindAnother() {
        CHECKS.promise("PLAN: of the text in place, nothing of the one ahead");
        FaultWays x = Checks.of("post a;post b;post c;post d;post e;link a b 1;link a c 1;link a e 1;link a d 1;eye b;eye c;eye d;eye e;");
        // bac 0 1 | bad 0 3 | bae 0 2 | cad 1 3 | cae 1 2 | dae 2 3
        CHECKS.dueList("all", i -> x.plan(0, i), 0, 5);
        CHECKS.dueList("apart", i -> x.plan(1, i), 0, 1, 2);
        for (int n = 3; n >= 0; n--) {
            Checks.type(x, between(n));
            due("read", x.read(), 0);
            due("paths", x.count(17), n);
            due("plan", x.plan(0, NONE), n);
            due("plan", x.plan(1, NONE), n);
            for (int i = 0; i < n; i++) {
                due("plan", x.plan(0, i), i);
                due("plan", x.plan(1, i), i);
            }
        }
        // ahead: ab has 0, ac has 1, bc has both, as the third; now ab has 0 and cd has 1, and there is no third
        FaultWays thirdAhead = Checks.of("post a;post b;post c;link a b 1;link a c 1;eye a;eye b;eye c;");
        CHECKS.dueList("one has both", i -> thirdAhead.plan(0, i), 2);
        Checks.type(thirdAhead, "post a;post b;post c;post d;link a b 1;link c d 1;eye a;eye b;eye c;eye d;");
        due("read", thirdAhead.read(), 0);
        due("two of them", thirdAhead.count(17), 2);
        CHECKS.dueList("none has both", i -> thirdAhead.plan(0, i), 0, 1);
        CHECKS.dueList("none has both, apart", i -> thirdAhead.plan(1, i), 0, 1);
    }

    private static void planOfSeven() {
        CHECKS.promise("PLAN: 3 at most tell seven LINKS apart");
        FaultWays x = Checks.of("post a;post b;post c;post d;post e;post f;post g;post h;link b d 1;link d g 1;link a f 1;link e g 1;"
            + "link b f 1;link c g 1;link a b 1;link d f 1;eye a;eye e;eye g;eye h;");
        // abdge 0 1 3 6 | afdge 1 2 3 7 | abdg 0 1 6 | afdg 1 2 7 | abfdg 1 4 6 7 | afbdg 0 1 2 4 | eg 3
        due("paths", x.count(17), 7);
        CHECKS.dueList("4 is on the last two of a and g alone", i -> x.plan(0, i), 0, 1, 4);
        CHECKS.dueList("all seven ways to be on three", i -> x.plan(1, i), 0, 1, 4);
        CHECKS.promise("PLAN: 3 at most do not tell eight LINKS apart");
        FaultWays y = Checks.of(posts() + "link a f 1;link b d 1;link c d 1;link b c 1;link a e 1;link a c 1;link e f 1;link d e 1;eye b;eye f;");
        // bcaf 0 3 5 | bdef 1 6 7 | bcaef 3 4 5 6 | bcdef 2 3 6 7 | bdcaf 0 1 2 5 | bdeaf 0 1 4 7
        due("paths", y.count(17), 6);
        CHECKS.dueList("all", i -> y.plan(0, i), 0, 3, 5);
        for (int i = -2; i <= 3; i++) {
            due("apart", y.plan(1, i), -2);
        }
        CHECKS.promise("PLAN: of as few those of which the first one is least, then the second, and so on");
        FaultWays z = Checks.of(posts() + "link a b 1;link g h 1;link b g 1;link a h 1;link c h 1;link d e 1;link d f 1;link e h 1;link c e 1;"
            + "eye e;eye f;eye g;");
        // edf 5 6 | ehg 1 7 | echg 1 4 8 | ehabg 0 2 3 7 | fdehg 1 5 6 7
        due("paths", z.count(17), 5);
        CHECKS.dueList("echg and ehabg have what no other has", i -> z.plan(0, i), 0, 2, 3);
        CHECKS.dueList("1 and 4 are told apart too", i -> z.plan(1, i), 2, 3, 4);
        FaultWays u = Checks.of(posts() + "link b c 1;link a e 1;link a b 1;link e f 1;link b e 1;link a c 1;link b f 1;link d f 1;eye c;eye d;");
        // cbfd 0 6 7 | cabfd 2 5 6 7 | caefd 1 3 5 7 | cbefd 0 3 4 7
        CHECKS.dueList("all but the first", i -> u.plan(0, i), 1, 2, 3);
        due("eight apart", u.plan(1, NONE), -2);
        FaultWays v = Checks.of(Nets.FULL + "eye a;eye b;");
        // ab 0 | acb 1 3 | adb 2 4 | acdb 1 5 4 | adcb 2 5 3
        CHECKS.dueList("all six", i -> v.plan(0, i), 0, 3, 4);
        due("six apart would take more", v.plan(1, NONE), -2);
        CHECKS.promise("PLAN: the most PATHS that there can be");
        due("118", Checks.of(posts() + "link a c 1;link d h 1;link a d 1;link e h 1;link c e 1;link a h 1;link b h 1;link c h 1;link b e 1;"
            + "link a e 1;link d e 1;link b c 1;eye a;eye b;eye c;eye d;").count(17), 118);
    }

    private static String posts() {
        return "post a;post b;post c;post d;post e;post f;post g;post h;";
    }

    private static void guess() {
        CHECKS.promise("28: GUESS of n (1 .. 10): what 0 .. 3. NONE for others");
        FaultWays x = Checks.of(ONE);
        for (int n : new int[] {MIN, -1, 0, 11, 12, MAX}) {
            for (int what = -1; what <= 4; what++) {
                due("guess(" + n + ", " + what + ")", x.guess(n, what), NONE);
            }
        }
        for (int what : new int[] {MIN, -2, -1, 4, 5, MAX}) {
            due("guess(1, " + what + ")", x.guess(1, what), NONE);
            due("guess(10, " + what + ")", x.guess(10, what), NONE);
        }
        for (int n = 1; n <= 10; n++) {
            due("a way for each link: likeliest", x.guess(n, 0), n);
            due("the first lean set", x.guess(n, 1), n);
            due("lean", x.guess(n, 2), n);
        }
        CHECKS.promise("28: of no LINKS");
        FaultWays y = Checks.of("post a;seed 5;");
        due("the empty set is drawn", y.guess(1, 0), 1);
        due("ten times", y.guess(10, 1), 10);
        due("lean", y.guess(10, 2), 10);
        due("none is sure", y.guess(10, 3), 0);
        CHECKS.promise("GUESS: (in thought)");
        x.tell(0, 1);
        x.guess(10, 3);
        due("outcome", x.way(0, 0), 1);
        due("things to be undone", x.count(11), 1);
    }

    /** Seeds of which the first draw is 0 .. 9 (worked out apart from any Java). */
    private static final int[] SEEDS = {0, 11, 9, 10, 7, 5, 6, 3, 1, 16};
    /** The first ten draws of the least and of the greatest seed. */
    private static final int[] OF_LEAST = {0, 8, 8, 7, 8, 7, 5, 1, 2, 0};
    private static final int[] OF_GREATEST = {1, 3, 9, 4, 1, 7, 3, 9, 6, 6};

    private static void draws() {
        CHECKS.promise("GUESS: has failed if a DRAW is below its RISK");
        for (int draw = 0; draw <= 9; draw++) {
            for (int risk = 1; risk <= 9; risk++) {
                FaultWays x = Checks.of("post a;post b;link a b " + risk + ";way w a b;seed " + SEEDS[draw] + ";");
                due("draw " + draw + ", risk " + risk, x.guess(1, 3), draw < risk ? 1 : 0);
            }
        }
        CHECKS.promise("DRAW: x goes on from draw to draw, SEED 0 .. 9999");
        for (int risk = 1; risk <= 9; risk++) {
            String text = "post a;post b;link a b " + risk + ";way w a b;";
            FaultWays least = Checks.of(text + "seed 0;");
            FaultWays greatest = Checks.of(text + "seed 9999;");
            int ofLeast = 0;
            int ofGreatest = 0;
            for (int n = 1; n <= 10; n++) {
                ofLeast += OF_LEAST[n - 1] < risk ? 1 : 0;
                ofGreatest += OF_GREATEST[n - 1] < risk ? 1 : 0;
                due("seed 0, " + n, least.guess(n, 3), ofLeast);
                due("seed 9999, " + n, greatest.guess(n, 3), ofGreatest);
            }
            due("x is SEED each time", least.guess(1, 3), 1);
        }
    }

    private static void guessWithoutWays() {
        CHECKS.promise("GUESS: without WAYS each set EXPLAINS");
        for (int risk = 1; risk <= 9; risk++) {
            FaultWays x = Checks.of("post a;post b;link a b " + risk + ";seed 0;");
            int failed = 0;
            for (int n = 1; n <= 10; n++) {
                failed += OF_LEAST[n - 1] < risk ? 1 : 0;
                due("likeliest, risk " + risk, x.guess(n, 0), risk > 5 ? failed : n - failed);
                due("the first lean set is empty", x.guess(n, 1), n - failed);
                due("the only lean one", x.guess(n, 2), n - failed);
                due("none is sure", x.guess(n, 3), 0);
            }
        }
    }

    private static void guessOfLean() {
        CHECKS.promise("28: what 0 LIKELIEST, 1 the first LEAN set, 2 the set is LEAN, 3 SURE");
        FaultWays x = Checks.of("post a;post b;post c;link a b 5;link b c 5;way w a b c;seed 0;");
        // draws 0 8 | 8 7 | 8 7 | 5 1 | 2 0: {0}, none, none, {1}, {0 1}; if bad, {0} is likeliest and first, {1} is lean too
        int[][] want = {{1, 1, 1, 0}, {2, 2, 2, 0}, {3, 3, 3, 0}, {3, 3, 4, 0}, {3, 3, 4, 0}};
        for (int n = 1; n <= 5; n++) {
            for (int what = 0; what <= 3; what++) {
                due("guess(" + n + ", " + what + ")", x.guess(n, what), want[n - 1][what]);
            }
        }
    }

    private static void guessOfSure() {
        CHECKS.promise("28: 3 how many LINKS are SURE in all, added");
        FaultWays x = Checks.of("post a;post b;post c;post d;link a b 1;link b c 9;link c d 5;way p a b;way q b c d;seed 0;");
        // draws 0 8 8 | 7 8 7 | 5 1 2: {0 1}, {1}, {1 2}; 0 is sure the first time, then cleared; of 1 and 2 none is
        int[][] want = {{1, 1, 1, 1}, {2, 2, 2, 1}, {2, 2, 2, 1}};
        for (int n = 1; n <= 3; n++) {
            for (int what = 0; what <= 3; what++) {
                due("guess(" + n + ", " + what + ")", x.guess(n, what), want[n - 1][what]);
            }
        }
    }

    // ---- promises 29 to 32

    private static void path() {
        CHECKS.promise("29: PATHS: how many (i NONE, whatever k is), else how many POSTS (k NONE), else its k-th; NONE: no such ones");
        FaultWays x = Checks.of(Nets.FULL + "post e;post f;link e f 1;");
        for (int k : new int[] {MIN, -2, NONE, 0, 1, 7, 8, MAX}) {
            due("path(0, 1, NONE, " + k + ")", x.path(0, 1, NONE, k), 5);
            due("none", x.path(0, 4, NONE, k), 0);
            due("one", x.path(5, 4, NONE, k), 1);
        }
        for (int i : new int[] {MIN, -2, 5, 6, 64, MAX}) {
            due("path(0, 1, " + i + ", NONE)", x.path(0, 1, i, NONE), NONE);
            due("path(0, 1, " + i + ", 0)", x.path(0, 1, i, 0), NONE);
        }
        due("none: the first", x.path(0, 4, 0, NONE), NONE);
        due("none: its post", x.path(0, 4, 0, 0), NONE);
        CHECKS.dueList("the last", k -> x.path(0, 1, 4, k), 0, 3, 2, 1);
        CHECKS.dueList("the shortest", k -> x.path(5, 4, 0, k), 5, 4);
        for (int post : new int[] {MIN, -2, -1, 6, 7, 8, MAX}) {
            due("path from " + post, x.path(post, 0, NONE, 0), NONE);
            due("path to " + post, x.path(0, post, NONE, 0), NONE);
        }
        CHECKS.promise("PATHS of two unlike POSTS");
        for (int post = 0; post < 6; post++) {
            due("path to itself", x.path(post, post, NONE, 0), NONE);
            due("path to itself", x.path(post, post, 0, 0), NONE);
        }
    }

    private static void mostPaths() {
        CHECKS.promise("PATHS: all rows, no POST twice, in order");
        FaultWays x = Checks.of(posts() + "link a h 1;link a f 1;link f h 1;link d h 1;link b g 1;link a d 1;link g h 1;link f g 1;link d f 1;"
            + "link b d 1;link d g 1;link b f 1;");
        due("the most that there can be", x.path(0, 1, NONE, 0), 37);
        CHECKS.dueList("the first", k -> x.path(0, 1, 0, k), 0, 3, 1);
        CHECKS.dueList("the second", k -> x.path(0, 1, 1, k), 0, 5, 1);
        CHECKS.dueList("the last", k -> x.path(0, 1, 36, k), 0, 7, 6, 5, 3, 1);
        due("behind the last", x.path(0, 1, 37, NONE), NONE);
        due("laid", x.lay(0, 1, 36), 0);
        due("not laid", x.lay(0, 1, 37), NONE);
        FaultWays y = Checks.of(Nets.CHAIN + "post f;post g;post h;link e f 1;link f g 1;link g h 1;link h a 1;");
        CHECKS.dueList("the short way", k -> y.path(0, 7, 0, k), 0, 7);
        CHECKS.dueList("all eight posts", k -> y.path(0, 7, 1, k), 0, 1, 2, 3, 4, 5, 6, 7);
        due("no more", y.path(0, 7, NONE, 0), 2);
    }

    private static void fresh() {
        CHECKS.promise("30: FRESH: the number of the PATH; -2: there is none; NONE: no such POSTS");
        FaultWays x = Checks.of(Nets.FULL + "post e;post f;link e f 1;");
        due("one alone", x.fresh(4, 5), 0);
        due("none", x.fresh(0, 4), -2);
        due("none", x.fresh(5, 3), -2);
        for (int post : new int[] {MIN, -2, -1, 6, 7, 8, MAX}) {
            due("from " + post, x.fresh(post, 4), NONE);
            due("to " + post, x.fresh(4, post), NONE);
            due("both " + post, x.fresh(post, post), NONE);
        }
        due("itself", x.fresh(4, 4), NONE);
        CHECKS.promise("FRESH: would leave so fewest, of alike ones the first");
        FaultWays y = Checks.of("post a;post b;post c;post d;link a c 1;link c b 1;link a d 1;link d b 1;way w a c;");
        due("both leave 12 of 16", y.fresh(0, 1), 0);
        y.tell(0, 1);
        due("acb is one link now: 4 of 8, adb 6", y.fresh(0, 1), 0);
        y.tell(0, 2);
        due("acb is bad: 8 of 8, adb 6", y.fresh(0, 1), 1);
        y.lay(0, 2, 0);
        y.tell(1, 1);
        due("nothing explains: all leave 0, the first", y.fresh(0, 1), 0);
    }

    private static void lost() {
        CHECKS.promise("31: LOST: POSTS to which one comes, itself too; NONE: no such ones");
        FaultWays x = Checks.of(Nets.TWELVE);
        for (int post = 0; post < 8; post++) {
            due("none has failed", x.lost(post, 0), 255);
            due("all have failed", x.lost(post, 4095), 1 << post);
        }
        for (int set : new int[] {MIN, -2, -1, 4096, 8191, MAX}) {
            due("lost(0, " + set + ")", x.lost(0, set), NONE);
        }
        for (int post : new int[] {MIN, -2, -1, 8, 9, 32, MAX}) {
            due("lost(" + post + ", 0)", x.lost(post, 0), NONE);
            due("lost(" + post + ", 4096)", x.lost(post, 4096), NONE);
        }
        due("one link of twelve", x.lost(7, 2048), 128);
        due("a post alone", Checks.of("post a;").lost(0, 0), 1);
        due("behind it", Checks.of("post a;").lost(1, 0), NONE);
        due("no such set", Checks.of("post a;").lost(0, 1), NONE);
        due("outcomes do not count", Checks.of(ONE + "bad w;").lost(0, 0), 3);
    }

    private static void split() {
        CHECKS.promise("32: SPLIT; NONE: no such set");
        due("no posts", Checks.of("").split(0), 0);
        due("one", Checks.of("post a;").split(0), 1);
        due("eight without links", Checks.of(posts()).split(0), 8);
        FaultWays x = Checks.of(Nets.TWELVE);
        due("none has failed", x.split(0), 1);
        due("one", x.split(2048), 2);
        due("all but one", x.split(2047), 7);
        due("all", x.split(4095), 8);
        for (int set : new int[] {MIN, -2, -1, 4096, 8191, MAX}) {
            due("split(" + set + ")", x.split(set), NONE);
        }
        due("of one link", Checks.of(ONE).split(1), 2);
        due("behind it", Checks.of(ONE).split(2), NONE);
    }

    // ---- promise 35 and the last sentence of the terms

    private static void count() {
        CHECKS.promise("35: NONE for others");
        FaultWays x = Checks.of(Nets.ALONE + "bad k;good v;eye a;eye h;price 99;seed 9999;");
        // eyes a and h: agh, abgh, acbgh, adbgh, aebgh, afbgh are of 5 posts at most
        CHECKS.dueRow("count", x::count, 8, 12, 12, 2048, 1, 0, 2046, 2048, 1, 4095, 0, 0, 0, 1, 129, 99, 9999, 6);
        for (int what : new int[] {MIN, -2, -1, 18, 19, MAX}) {
            due("count(" + what + ")", x.count(what), NONE);
        }
        CHECKS.promise("35: 11 things that can be undone, 12 SLOTS that hold something, 10 bytes on the tape");
        x.tell(1, 1);
        x.hold(2);
        x.feed(0, 0, 0, 0, 0);
        x.back(1);
        due("bytes", x.count(10), 19);
        due("things", x.count(11), 1);
        due("slots", x.count(12), 1);
        x.hold(0);
        due("slots", x.count(12), 2);
        x.hold(0);
        due("slots", x.count(12), 2);
        x.undo();
        due("things", x.count(11), 0);
        x.back(19);
        due("bytes", x.count(10), 0);
    }

    private static void countOfStates() {
        CHECKS.promise("35: 3 CLEARED, 4 SURE, 5 DOUBTFUL, 6 IDLE (each as bits; 4 to 6: 0 if nothing EXPLAINS)");
        FaultWays x = Checks.of(STATES);
        due("cleared", x.count(3), 1);
        due("sure", x.count(4), 2);
        due("doubtful", x.count(5), 12);
        due("idle", x.count(6), 16);
        due("the first lean set has", x.count(13), 2);
        x.tell(1, 1);
        x.tell(2, 1);
        due("cleared", x.count(3), 15);
        due("sure", x.count(4), 0);
        due("doubtful", x.count(5), 0);
        due("idle", x.count(6), 16);
        due("the first lean set is empty", x.count(13), 0);
        FaultWays y = Checks.of(STATES + "way t a b;bad t;");
        due("cleared", y.count(3), 1);
        due("sure", y.count(4), 0);
        due("doubtful", y.count(5), 0);
        due("idle", y.count(6), 0);
        CHECKS.promise("35: 13 how many LINKS the first LEAN set has (-2: there is none)");
        due("none", y.count(13), -2);
        due("four", Checks.of(GROUPS_BAD).count(13), 4);
        due("the fewest", Checks.of(Nets.CHAIN + "way p a b c;way q b c d;bad p;bad q;").count(13), 1);
    }

    private static void noneAheadOfNothing() {
        CHECKS.promise("Where NONE and -2 could both be told, it is NONE, unless another order is told");
        FaultWays x = twelveOfOne(6);
        due("a link that there is not", x.link(1, 4), NONE);
        due("a what that there is not", x.link(0, 5), NONE);
        due("but", x.link(0, 4), -2);
        due("a what that there is not", x.count(18), NONE);
        due("but", x.count(13), -2);
        due("a link that there is not", x.twin(1), NONE);
        due("but", x.twin(0), -2);
        FaultWays y = Checks.of("post a;post b;");
        due("a post that there is not", y.fresh(0, 2), NONE);
        due("itself", y.fresh(0, 0), NONE);
        due("but", y.fresh(0, 1), -2);
        FaultWays z = Checks.of(between(4));
        due("a what that there is not", z.plan(2, NONE), NONE);
        due("another order is told: whatever i is", z.plan(0, 4), -2);
        due("whatever i is", z.plan(1, -2), -2);
    }

    // ---- where there is nothing, or one thing alone

    private static void nothingExplains() {
        CHECKS.promise("where nothing EXPLAINS");
        // 0 ab 2, 1 bc 5, 2 cd 1, 3 ac 3: x has 0 1, y has 2 3, z has 0
        FaultWays x = Checks.of(Nets.NET + "good x;bad z;eye a;eye d;seed 31;");
        for (int link = 0; link < 4; link++) {
            due("state of " + link, x.link(link, 4), -2);
            due("weight of " + link, x.weight(link), 0);
        }
        CHECKS.dueRow("sets", x::sets, 0, 0, 0, 0, 0, 0, 0, 0, 0, 0, 0, 0, 0);
        CHECKS.dueList("lean", x::lean);
        CHECKS.dueRow("explains", x::explains, 0, 0, 0, 0, 0, 0, 0, 0, 0, 0, 0, 0, 0, 0, 0, 0);
        due("likeliest", x.likeliest(), -2);
        due("weight", x.weight(NONE), 0);
        CHECKS.dueRow("cheapest: none costs 20, {0} 8 and 20", x::cheapest, 0, 20, 4, 1);
        CHECKS.dueList("disbelieved", x::disbelieved, 0);
        due("blamed", x.blamed(NONE), 2);
        CHECKS.dueRow("blamed", x::blamed, 1, 0, 1);
        due("x bad: {0} and more", x.after(0, false), 8);
        due("z good: of 2 3 any", x.after(2, true), 4);
        due("y good", x.after(1, true), 0);
        due("y bad", x.after(1, false), 0);
        due("next", x.next(), 1);
        due("tries", x.tries(false), 0);
        due("first", x.tries(true), -2);
        due("fresh", x.fresh(0, 3), 0);
        due("cleared", x.count(3), 3);
        due("sure", x.count(4), 0);
        due("doubtful", x.count(5), 0);
        due("idle", x.count(6), 0);
        due("first lean", x.count(13), -2);
        CHECKS.promise("where nothing EXPLAINS, what does not hang on it");
        FaultWays y = Checks.of(Nets.NET + "eye a;eye d;seed 31;");
        for (int what = 0; what <= 3; what++) {
            due("guess", x.guess(10, what), y.guess(10, what));
        }
        due("level", x.level(), y.level());
        due("twin", x.twin(2), 3);
        due("choice", x.choice(1, NONE), 3);
        due("plan", x.plan(0, NONE), 2);
        due("path", x.path(0, 3, NONE, 0), 2);
        due("split", x.split(4), 2);
    }

    private static void onePostAlone() {
        CHECKS.promise("one POST alone");
        FaultWays x = Checks.of("post a;eye a;");
        due("posts", x.count(0), 1);
        due("eyes", x.count(14), 1);
        due("paths of a plan", x.count(17), 0);
        CHECKS.dueList("plan", i -> x.plan(0, i));
        due("path", x.path(0, 0, NONE, 0), NONE);
        due("path", x.path(0, 1, NONE, 0), NONE);
        due("fresh", x.fresh(0, 0), NONE);
        due("lay", x.lay(0, 0, 0), NONE);
        due("lost", x.lost(0, 0), 1);
        due("split", x.split(0), 1);
        CHECKS.dueList("lean", x::lean, 0);
    }

    private static void oneLinkAlone() {
        CHECKS.promise("one LINK alone");
        FaultWays x = Checks.of("post a;post b;link b a 4;eye a;eye b;");
        CHECKS.dueRow("link", what -> x.link(0, what), 0, 1, 4, 0, 3);
        CHECKS.dueRow("explains", x::explains, 2, 1);
        due("weight", x.weight(NONE), 10);
        due("weight", x.weight(0), 4);
        due("likeliest", x.likeliest(), 0);
        CHECKS.dueRow("cheapest", x::cheapest, 0, 0, 0, 1);
        due("seen", x.count(9), 0);
        due("level", x.level(), 0);
        CHECKS.dueRow("twin", x::twin, -2);
        due("next", x.next(), -2);
        due("tries", x.tries(false), 0);
        due("path", x.path(0, 1, NONE, 0), 1);
        due("fresh", x.fresh(1, 0), 0);
        CHECKS.dueList("plan", i -> x.plan(0, i), 0);
        CHECKS.dueList("plan", i -> x.plan(1, i), 0);
        CHECKS.dueRow("split", x::split, 1, 2);
        due("lay", x.lay(1, 0, 0), 0);
        due("lay", x.lay(1, 0, 1), NONE);
    }

    private static void oneWayAlone() {
        CHECKS.promise("one WAY alone");
        FaultWays x = Checks.of(ONE);
        due("next", x.next(), 0);
        due("tries", x.tries(false), 1);
        due("first", x.tries(true), 0);
        due("level", x.level(), 1);
        CHECKS.dueList("choice", i -> x.choice(0, i), 0);
        CHECKS.dueList("choice", i -> x.choice(1, i), 0);
        due("good", x.after(0, true), 1);
        due("bad", x.after(0, false), 1);
        x.tell(0, 2);
        due("next", x.next(), -2);
        due("tries", x.tries(false), 0);
        due("first", x.tries(true), -2);
        CHECKS.dueList("lean", x::lean, 1);
        due("state", x.link(0, 4), 1);
        due("blamed", x.blamed(NONE), 1);
        CHECKS.dueRow("blamed", x::blamed, 0);
        CHECKS.dueList("disbelieved", x::disbelieved);
    }
}
