import java.util.Arrays;

/** Which links of a net have failed, by ways that came through and ways that did not. */
public final class FaultWays {
    public static final int NONE = -1;

    private static final int NOTHING = -2;
    private static final int MOST_POSTS = 8;
    private static final int MOST_LINKS = 12;
    private static final int MOST_WAYS = 12;
    private static final int MOST_SETS = 4096;
    private static final int MOST_GUESSES = 10;
    private static final int UNKNOWN = 0;
    private static final int GOOD = 1;
    private static final int BAD = 2;

    private final Text text;
    private final Checker checker;
    private final Net net;
    private final Ways ways;
    private final Hand hand;
    private final Paths paths;
    private final Sets sets;
    private final Trust trust;
    private final Sight sight;
    private final Trial trial;
    private final Planner planner;

    public FaultWays() {
        text = new Text();
        checker = new Checker(text);
        net = new Net();
        ways = new Ways();
        hand = new Hand();
        paths = new Paths(net);
        sets = new Sets(net, ways);
        trust = new Trust(net, ways, sets);
        sight = new Sight(net, ways, sets);
        trial = new Trial(net, ways, sets);
        planner = new Planner(net, paths);
    }

    public int feed(int a, int b, int c, int d, int e) {
        if (!text.hasRoom(20)) {
            return NONE;
        }
        text.addWord(a);
        text.addWord(b);
        text.addWord(c);
        text.addWord(d);
        text.addWord(e);
        return text.length;
    }

    public int back(int n) {
        if (n < 0 || n > text.length) {
            return NONE;
        }
        text.length -= n;
        return text.length;
    }

    public int read() {
        text.scan();
        if (text.fault == 0) {
            checker.check();
        }
        text.length = 0;
        if (text.fault == 0) {
            checker.build(net, ways);
            hand.forgetAll();
            paths.forget();
            planner.forget();
            sets.learnNet();
            sets.learnWays();
        }
        return text.fault;
    }

    public int place() {
        return text.faultPlace;
    }

    public boolean tell(int way, int outcome) {
        if (!ways.has(way) || outcome < UNKNOWN || outcome > BAD || ways.outcomeOf(way) == outcome) {
            return false;
        }
        hand.noteTold(way, ways.outcomeOf(way));
        ways.setOutcome(way, outcome);
        sets.forgetFindings();
        return true;
    }

    public int lay(int from, int to, int i) {
        if (!areUnlikePosts(from, to) || ways.count >= MOST_WAYS) {
            return NONE;
        }
        paths.seek(from, to);
        if (!paths.has(i)) {
            return NONE;
        }
        hand.noteLaid();
        ways.add(paths.rowOf(i), paths.linksOf(i));
        sets.learnWays();
        return ways.count - 1;
    }

    public boolean undo() {
        if (hand.done == 0) {
            return false;
        }
        int thing = hand.takeLast();
        if (thing == Hand.LAID) {
            ways.dropLast();
            sets.learnWays();
        } else {
            ways.setOutcome(Hand.wayOf(thing), Hand.outcomeOf(thing));
            sets.forgetFindings();
        }
        return true;
    }

    public int link(int link, int what) {
        if (!net.hasLink(link)) {
            return NONE;
        }
        switch (what) {
            case 0:
                return net.lowOf(link);
            case 1:
                return net.highOf(link);
            case 2:
                return net.riskOf(link);
            case 3:
                return ways.withLink(link);
            case 4:
                return sets.stateOf(link);
            default:
                return NONE;
        }
    }

    public int way(int way, int what) {
        if (!ways.has(way)) {
            return NONE;
        }
        switch (what) {
            case 0:
                return ways.outcomeOf(way);
            case 1:
                return ways.linksOf(way);
            case 2:
                return Net.rowLength(ways.rowOf(way));
            default:
                return NONE;
        }
    }

    public int post(int way, int i) {
        return ways.has(way) ? Net.rowPost(ways.rowOf(way), i) : NONE;
    }

    public int sets(int n) {
        if (n < 0 || n > MOST_LINKS) {
            return NONE;
        }
        return sets.countUpTo(n, ways.known(), ways.bad());
    }

    public int lean(int i) {
        sets.findLean();
        return i == NONE ? sets.leanCount : sets.leanAt(i);
    }

    public int explains(int set) {
        if (!net.hasSet(set)) {
            return NONE;
        }
        int known = ways.known();
        int bad = ways.bad();
        if (!sets.fits(set, known, bad)) {
            return 0;
        }
        return sets.isLean(set, known, bad) ? 2 : 1;
    }

    public int likeliest() {
        return sets.heaviest(ways.known(), ways.bad());
    }

    public long weight(int link) {
        if (link != NONE && !net.hasLink(link)) {
            return NONE;
        }
        return sets.weightOf(link == NONE ? 0 : 1 << link, ways.known(), ways.bad());
    }

    public int cheapest(int what) {
        if (what < 0 || what > 3) {
            return NONE;
        }
        trust.findCheapest();
        switch (what) {
            case 0:
                return trust.cheapestSet;
            case 1:
                return trust.leastCost;
            case 2:
                return trust.contradicted(trust.cheapestSet, ways.known(), ways.bad());
            default:
                return trust.asCheap;
        }
    }

    public int disbelieved(int i) {
        return memberOf(trust.fewestWrong(), i);
    }

    public int blamed(int way) {
        if (way != NONE && !ways.has(way)) {
            return NONE;
        }
        return trust.countFewestWrong(way == NONE ? 0 : 1 << way);
    }

    public int level() {
        return sight.highestLevel();
    }

    public int twin(int link) {
        return net.hasLink(link) ? sight.twinOf(link) : NONE;
    }

    public int trace(int set) {
        return net.hasSet(set) ? sets.traceOf(set) : NONE;
    }

    public int choice(int what, int i) {
        if (what != 0 && what != 1) {
            return NONE;
        }
        return memberOf(sight.fewestWays(what == 1), i);
    }

    public int after(int way, boolean good) {
        if (!ways.has(way)) {
            return NONE;
        }
        int bit = 1 << way;
        int bad = good ? ways.bad() & ~bit : ways.bad() | bit;
        return sets.countUpTo(MOST_LINKS, ways.known() | bit, bad);
    }

    public int next() {
        int best = NOTHING;
        int least = MOST_SETS + 1;
        for (int way = 0; way < ways.count; way++) {
            if (ways.outcomeOf(way) == UNKNOWN) {
                int left = sets.mostLeftBy(ways.linksOf(way));
                if (left < least) {
                    least = left;
                    best = way;
                }
            }
        }
        return best;
    }

    public int tries(boolean first) {
        int most = trial.fewestTries();
        if (!first) {
            return most;
        }
        return most == 0 ? NOTHING : trial.firstWay(most);
    }

    public int plan(int what, int i) {
        if (what != 0 && what != 1) {
            return NONE;
        }
        planner.ready();
        int size = planner.sizeOf(what);
        if (size == NOTHING || i == NONE) {
            return size;
        }
        return i >= 0 && i < size ? planner.pickOf(what, i) : NONE;
    }

    public int guess(int n, int what) {
        if (n < 1 || n > MOST_GUESSES || what < 0 || what > 3) {
            return NONE;
        }
        int sum = 0;
        net.startDraws();
        for (int i = 0; i < n; i++) {
            sum += scoreOf(net.drawFailed(), what);
        }
        return sum;
    }

    public int path(int from, int to, int i, int k) {
        if (!areUnlikePosts(from, to)) {
            return NONE;
        }
        paths.seek(from, to);
        if (i == NONE) {
            return paths.count;
        }
        if (!paths.has(i)) {
            return NONE;
        }
        int row = paths.rowOf(i);
        return k == NONE ? Net.rowLength(row) : Net.rowPost(row, k);
    }

    public int fresh(int from, int to) {
        if (!areUnlikePosts(from, to)) {
            return NONE;
        }
        paths.seek(from, to);
        int best = NOTHING;
        int least = MOST_SETS + 1;
        for (int i = 0; i < paths.count; i++) {
            int left = sets.mostLeftBy(paths.linksOf(i));
            if (left < least) {
                least = left;
                best = i;
            }
        }
        return best;
    }

    public int lost(int post, int set) {
        return net.hasPost(post) && net.hasSet(set) ? net.reachedFrom(post, set) : NONE;
    }

    public int split(int set) {
        return net.hasSet(set) ? net.partsWithout(set) : NONE;
    }

    public boolean hold(int slot) {
        return hand.keep(slot, ways);
    }

    public boolean restore(int slot) {
        if (!hand.bringBack(slot, ways)) {
            return false;
        }
        sets.learnWays();
        return true;
    }

    public int count(int what) {
        switch (what) {
            case 0:
                return net.posts;
            case 1:
                return net.links;
            case 2:
                return ways.count;
            case 7:
                return ways.good();
            case 8:
                return ways.bad();
            case 9:
                return ways.seenLinks();
            case 10:
                return text.length;
            case 11:
                return hand.done;
            case 12:
                return hand.slotsHeld();
            case 14:
                return net.eyes;
            case 15:
                return net.price;
            case 16:
                return net.seed;
            case 17:
                planner.ready();
                return planner.count;
            default:
                return countByState(what);
        }
    }

    private int countByState(int what) {
        sets.findLean();
        switch (what) {
            case 3:
                return ways.clearedLinks();
            case 4:
                return sets.inAllLean;
            case 5:
                return sets.inSomeLean & ~sets.inAllLean;
            case 6:
                return sets.idleLinks();
            case 13:
                return sets.leanCount == 0 ? NOTHING : Integer.bitCount(sets.leanAt(0));
            default:
                return NONE;
        }
    }

    private boolean areUnlikePosts(int from, int to) {
        return net.hasPost(from) && net.hasPost(to) && from != to;
    }

    /** What one guess adds: all ways are thought of as known, by the set that was drawn. */
    private int scoreOf(int drawn, int what) {
        int known = ways.all();
        int bad = sets.traceOf(drawn);
        switch (what) {
            case 0:
                return sets.heaviest(known, bad) == drawn ? 1 : 0;
            case 1:
                return sets.smallest(known, bad) == drawn ? 1 : 0;
            case 2:
                return sets.isLean(drawn, known, bad) ? 1 : 0;
            default:
                return Integer.bitCount(sets.sureLinks(known, bad));
        }
    }

    private static int memberOf(int bits, int i) {
        if (i == NONE) {
            return Integer.bitCount(bits);
        }
        int passed = 0;
        for (int member = 0; member < MOST_WAYS; member++) {
            if ((bits >> member & 1) != 0) {
                if (passed == i) {
                    return member;
                }
                passed++;
            }
        }
        return NONE;
    }

    /** Of sets of ways: fewer ones first; of as many, the one with the least first, then second, and so on. */
    private static boolean comesAhead(int one, int other) {
        int sizes = Integer.compare(Integer.bitCount(one), Integer.bitCount(other));
        if (sizes != 0) {
            return sizes < 0;
        }
        int unlike = one ^ other;
        return (one & unlike & -unlike) != 0;
    }

    /** The tape, and its tokens as far as the grammar and the room let them come. */
    private static final class Text {
        static final int END = 0;
        static final int POST = 1;
        static final int LINK = 2;
        static final int WAY = 3;
        static final int GOOD_WORD = 4;
        static final int BAD_WORD = 5;
        static final int EYE = 6;
        static final int PRICE = 7;
        static final int SEED = 8;
        static final int NAME = 9;
        static final int INT = 10;
        static final int SEMICOLON = 11;
        static final int STRANGE = 12;
        static final int KINDS = 13;

        static final int SYNTAX_FAULT = 1;
        static final int ROOM_FAULT = 2;

        private static final int MOST_BYTES = 2000;
        private static final int MOST_TOKENS = 400;
        private static final int MOST_LETTERS = 8;
        private static final int MOST_DIGITS = 4;
        private static final int MOST_EYE_LINES = 4;

        private final byte[] tape = new byte[MOST_BYTES];
        private final int[] kinds = new int[MOST_TOKENS];
        private final int[] places = new int[MOST_TOKENS];
        private final long[] values = new long[MOST_TOKENS];
        private final int[] linesOf = new int[KINDS];
        private int tokenStart = 0;
        private int tokenEnd = 0;
        private long tokenValue = 0;
        private int lineKind = END;
        private int inLine = 0;
        int length = 0;
        int size = 0;
        int fault = 0;
        int faultPlace = NONE;

        boolean hasRoom(int bytes) {
            return length + bytes <= MOST_BYTES;
        }

        void addWord(int word) {
            for (int shift = 24; shift >= 0; shift -= 8) {
                if (length >= 0 && length < MOST_BYTES) {
                    tape[length] = (byte) (word >> shift);
                    length++;
                }
            }
        }

        void fail(int number, int where) {
            fault = number;
            faultPlace = where;
        }

        int kindAt(int token) {
            return token >= 0 && token < size ? kinds[token] : END;
        }

        int placeAt(int token) {
            return token >= 0 && token < size ? places[token] : NONE;
        }

        long valueAt(int token) {
            return token >= 0 && token < size ? values[token] : 0;
        }

        boolean isLineStart(int token) {
            int kind = kindAt(token);
            return kind >= POST && kind <= SEED;
        }

        void scan() {
            fault = 0;
            faultPlace = NONE;
            size = 0;
            tokenEnd = 0;
            lineKind = END;
            inLine = 0;
            Arrays.fill(linesOf, 0);
            for (int i = 0; i <= MOST_TOKENS; i++) {
                int kind = nextKind();
                if (!goesOn(kind)) {
                    fail(SYNTAX_FAULT, tokenStart);
                } else if (kind != END && (i == MOST_TOKENS || isBeyondRoom(kind))) {
                    fail(ROOM_FAULT, tokenStart);
                }
                if (fault != 0 || kind == END) {
                    return;
                }
                keep(kind);
            }
        }

        private int nextKind() {
            skipBlanks();
            tokenStart = tokenEnd;
            tokenValue = 0;
            if (tokenStart >= length) {
                return END;
            }
            int first = byteAt(tokenStart);
            if (isLetter(first)) {
                return lettersKind();
            }
            if (isDigit(first)) {
                return digitsKind();
            }
            tokenEnd = tokenStart + 1;
            return first == ';' ? SEMICOLON : STRANGE;
        }

        private void skipBlanks() {
            int end = tokenEnd;
            while (end < length && isBlank(byteAt(end))) {
                end++;
            }
            tokenEnd = end;
        }

        private int lettersKind() {
            int end = tokenStart;
            while (end < length && isLetter(byteAt(end))) {
                tokenValue = tokenValue * 32 + (byteAt(end) - 'a' + 1);
                end++;
            }
            tokenEnd = end;
            return tokenEnd - tokenStart > MOST_LETTERS ? STRANGE : wordKind();
        }

        private int digitsKind() {
            int end = tokenStart;
            while (end < length && isDigit(byteAt(end))) {
                tokenValue = tokenValue * 10 + (byteAt(end) - '0');
                end++;
            }
            tokenEnd = end;
            return tokenEnd - tokenStart > MOST_DIGITS ? STRANGE : INT;
        }

        private int wordKind() {
            if (spells("post")) {
                return POST;
            }
            if (spells("link")) {
                return LINK;
            }
            if (spells("way")) {
                return WAY;
            }
            if (spells("good")) {
                return GOOD_WORD;
            }
            if (spells("bad")) {
                return BAD_WORD;
            }
            if (spells("eye")) {
                return EYE;
            }
            if (spells("price")) {
                return PRICE;
            }
            return spells("seed") ? SEED : NAME;
        }

        private boolean spells(String word) {
            if (tokenEnd - tokenStart != word.length()) {
                return false;
            }
            for (int i = 0; i < word.length(); i++) {
                if (byteAt(tokenStart + i) != word.charAt(i)) {
                    return false;
                }
            }
            return true;
        }

        /** Whether a text can go on with such a token (or end) where the line stands. */
        private boolean goesOn(int kind) {
            switch (lineKind) {
                case END:
                    return kind <= SEED;
                case LINK:
                    return kind == (inLine <= 2 ? NAME : inLine == 3 ? INT : SEMICOLON);
                case WAY:
                    return kind == NAME || kind == SEMICOLON && inLine > 3;
                case PRICE:
                case SEED:
                    return kind == (inLine == 1 ? INT : SEMICOLON);
                default:
                    return kind == (inLine == 1 ? NAME : SEMICOLON);
            }
        }

        private boolean isBeyondRoom(int kind) {
            if (lineKind == WAY) {
                return kind == NAME && inLine > 1 + MOST_POSTS;
            }
            if (lineKind != END || kind < 0 || kind >= KINDS) {
                return false;
            }
            switch (kind) {
                case POST:
                    return linesOf[kind] >= MOST_POSTS;
                case LINK:
                    return linesOf[kind] >= MOST_LINKS;
                case WAY:
                    return linesOf[kind] >= MOST_WAYS;
                case EYE:
                    return linesOf[kind] >= MOST_EYE_LINES;
                default:
                    return false;
            }
        }

        private void keep(int kind) {
            if (size < 0 || size >= MOST_TOKENS || kind < 0 || kind >= KINDS) {
                return;
            }
            kinds[size] = kind;
            places[size] = tokenStart;
            values[size] = tokenValue;
            size++;
            if (lineKind == END) {
                lineKind = kind;
                linesOf[kind]++;
                inLine = 1;
            } else if (kind == SEMICOLON) {
                lineKind = END;
                inLine = 0;
            } else {
                inLine++;
            }
        }

        private int byteAt(int i) {
            return i >= 0 && i < length && i < MOST_BYTES ? tape[i] & 255 : 0;
        }

        private static boolean isBlank(int sign) {
            return sign == 9 || sign == 10 || sign == 13 || sign == 32;
        }

        private static boolean isLetter(int sign) {
            return sign >= 'a' && sign <= 'z';
        }

        private static boolean isDigit(int sign) {
            return sign >= '0' && sign <= '9';
        }
    }

    /** What the names of a well-formed text mean: its later faults, and the net and ways that it tells. */
    private static final class Checker {
        private static final int TWICE_FAULT = 3;
        private static final int NAME_FAULT = 4;
        private static final int WRONG_FAULT = 5;
        private static final int MOST_OWN = MOST_POSTS + MOST_WAYS;

        private final Text text;
        private final long[] ownNames = new long[MOST_OWN];
        private final int[] ownTokens = new int[MOST_OWN];
        private final int[] ownNumbers = new int[MOST_OWN];
        private final int[] joinedInAll = new int[MOST_POSTS];
        private final int[] joinedAhead = new int[MOST_POSTS];
        private int ownCount = 0;

        Checker(Text text) {
            this.text = text;
        }

        /** The first fault by its place: lines are looked at as they stand, and so are the tokens of each. */
        void check() {
            gatherNames();
            gatherLinks();
            for (int token = 0; token < text.size && text.fault == 0; token++) {
                if (text.isLineStart(token)) {
                    checkLine(token);
                }
            }
        }

        /** Only for a text without faults. */
        void build(Net net, Ways ways) {
            net.clear();
            ways.clear();
            for (int token = 0; token < text.size; token++) {
                buildNet(token, net);
            }
            for (int token = 0; token < text.size; token++) {
                if (text.kindAt(token) == Text.WAY) {
                    buildWay(token, net, ways);
                }
            }
            for (int token = 0; token < text.size; token++) {
                int kind = text.kindAt(token);
                if (kind == Text.GOOD_WORD || kind == Text.BAD_WORD) {
                    ways.setOutcome(numberNamed(token + 1, Text.WAY), kind == Text.GOOD_WORD ? GOOD : BAD);
                }
            }
        }

        private void gatherNames() {
            ownCount = 0;
            int posts = 0;
            int ways = 0;
            for (int token = 0; token < text.size; token++) {
                int kind = text.kindAt(token);
                if (kind == Text.POST) {
                    addOwn(token + 1, posts);
                    posts++;
                } else if (kind == Text.WAY) {
                    addOwn(token + 1, ways);
                    ways++;
                }
            }
        }

        private void addOwn(int token, int number) {
            if (ownCount >= 0 && ownCount < MOST_OWN) {
                ownNames[ownCount] = text.valueAt(token);
                ownTokens[ownCount] = token;
                ownNumbers[ownCount] = number;
                ownCount++;
            }
        }

        private void gatherLinks() {
            Arrays.fill(joinedInAll, 0);
            Arrays.fill(joinedAhead, 0);
            for (int token = 0; token < text.size; token++) {
                if (text.kindAt(token) == Text.LINK) {
                    join(joinedInAll, numberNamed(token + 1, Text.POST), numberNamed(token + 2, Text.POST));
                }
            }
        }

        private void checkLine(int token) {
            switch (text.kindAt(token)) {
                case Text.POST:
                    checkOwn(token + 1);
                    break;
                case Text.LINK:
                    checkLink(token);
                    break;
                case Text.WAY:
                    checkOwn(token + 1);
                    checkRow(token + 2);
                    break;
                case Text.EYE:
                    failIf(numberNamed(token + 1, Text.POST) == NONE, NAME_FAULT, token + 1);
                    break;
                case Text.PRICE:
                    failIf(!isWithin(token + 1, 99), WRONG_FAULT, token + 1);
                    break;
                case Text.SEED:
                    break;
                default:
                    failIf(numberNamed(token + 1, Text.WAY) == NONE, NAME_FAULT, token + 1);
                    break;
            }
        }

        private void checkOwn(int token) {
            int own = ownOf(token);
            failIf(isOwn(own) && ownTokens[own] < token, TWICE_FAULT, token);
        }

        private void checkLink(int token) {
            int one = numberNamed(token + 1, Text.POST);
            int other = numberNamed(token + 2, Text.POST);
            failIf(one == NONE, NAME_FAULT, token + 1);
            failIf(one == other || areJoined(joinedAhead, one, other), TWICE_FAULT, token + 2);
            failIf(other == NONE, NAME_FAULT, token + 2);
            failIf(!isWithin(token + 3, 9), WRONG_FAULT, token + 3);
            join(joinedAhead, one, other);
        }

        private void checkRow(int first) {
            int ahead = NONE;
            int inRow = 0;
            for (int i = 0; i < MOST_POSTS && text.kindAt(first + i) == Text.NAME; i++) {
                int post = numberNamed(first + i, Text.POST);
                failIf(post == NONE, NAME_FAULT, first + i);
                if (post != NONE) {
                    failIf((inRow >> post & 1) != 0, WRONG_FAULT, first + i);
                    failIf(ahead != NONE && !areJoined(joinedInAll, ahead, post), WRONG_FAULT, first + i);
                    inRow |= 1 << post;
                }
                ahead = post;
            }
        }

        /** The checks of a line go by place, of one place by number: the first that fails stands. */
        private void failIf(boolean isFault, int number, int token) {
            if (isFault && text.fault == 0) {
                text.fail(number, text.placeAt(token));
            }
        }

        private boolean isWithin(int token, int most) {
            long value = text.valueAt(token);
            return value >= 1 && value <= most;
        }

        private boolean isOwn(int own) {
            return own >= 0 && own < ownCount && own < MOST_OWN;
        }

        /** The first line of 'post' or 'way' that tells the name at a token as its own. */
        private int ownOf(int token) {
            long name = text.valueAt(token);
            for (int own = 0; own < ownCount && own < MOST_OWN; own++) {
                if (ownNames[own] == name) {
                    return own;
                }
            }
            return NONE;
        }

        private int numberNamed(int token, int kind) {
            int own = ownOf(token);
            if (!isOwn(own) || text.kindAt(ownTokens[own] - 1) != kind) {
                return NONE;
            }
            return ownNumbers[own];
        }

        private static void join(int[] joined, int one, int other) {
            if (Net.isPostNumber(one) && Net.isPostNumber(other) && one != other) {
                joined[one] |= 1 << other;
                joined[other] |= 1 << one;
            }
        }

        private static boolean areJoined(int[] joined, int one, int other) {
            return Net.isPostNumber(one) && Net.isPostNumber(other) && (joined[one] >> other & 1) != 0;
        }

        private void buildNet(int token, Net net) {
            switch (text.kindAt(token)) {
                case Text.POST:
                    net.posts++;
                    break;
                case Text.LINK:
                    buildLink(token, net);
                    break;
                case Text.EYE:
                    net.eyes |= 1 << numberNamed(token + 1, Text.POST);
                    break;
                case Text.PRICE:
                    net.price = (int) text.valueAt(token + 1);
                    break;
                case Text.SEED:
                    net.seed = (int) text.valueAt(token + 1);
                    break;
                default:
                    break;
            }
        }

        private void buildLink(int token, Net net) {
            int one = numberNamed(token + 1, Text.POST);
            int other = numberNamed(token + 2, Text.POST);
            net.addLink(one, other, (int) text.valueAt(token + 3));
        }

        private void buildWay(int token, Net net, Ways ways) {
            int row = 0;
            for (int i = token + 2; i < text.size && text.kindAt(i) == Text.NAME; i++) {
                row = Net.rowWith(row, numberNamed(i, Text.POST));
            }
            ways.add(row, net.linksAlong(row));
        }
    }

    /** Posts, links, eyes, price and seed of the text in place. A row of posts is kept as one number. */
    private static final class Net {
        private static final int POST_BITS = 3;
        private static final int LENGTH_SHIFT = MOST_POSTS * POST_BITS;
        private static final int FIRST_PRICE = 20;

        private final int[] low = new int[MOST_LINKS];
        private final int[] high = new int[MOST_LINKS];
        private final int[] risk = new int[MOST_LINKS];
        private final int[] between = new int[MOST_POSTS * MOST_POSTS];
        private long lastDraw = 0;
        int posts = 0;
        int links = 0;
        int eyes = 0;
        int price = FIRST_PRICE;
        int seed = 0;

        Net() {
            Arrays.fill(between, NONE);
        }

        void clear() {
            posts = 0;
            links = 0;
            eyes = 0;
            price = FIRST_PRICE;
            seed = 0;
            Arrays.fill(between, NONE);
        }

        void addLink(int one, int other, int itsRisk) {
            if (links < 0 || links >= MOST_LINKS || !isPostNumber(one) || !isPostNumber(other)) {
                return;
            }
            low[links] = Math.min(one, other);
            high[links] = Math.max(one, other);
            risk[links] = itsRisk;
            between[one * MOST_POSTS + other] = links;
            between[other * MOST_POSTS + one] = links;
            links++;
        }

        boolean hasPost(int post) {
            return post >= 0 && post < posts;
        }

        boolean hasLink(int link) {
            return link >= 0 && link < links && link < MOST_LINKS;
        }

        boolean hasSet(int set) {
            return set >= 0 && set < setCount();
        }

        int setCount() {
            return 1 << links;
        }

        int allLinks() {
            return setCount() - 1;
        }

        int lowOf(int link) {
            return hasLink(link) ? low[link] : NONE;
        }

        int highOf(int link) {
            return hasLink(link) ? high[link] : NONE;
        }

        int riskOf(int link) {
            return hasLink(link) ? risk[link] : NONE;
        }

        int linkBetween(int one, int other) {
            return isPostNumber(one) && isPostNumber(other) ? between[one * MOST_POSTS + other] : NONE;
        }

        int linksAlong(int row) {
            int set = 0;
            for (int i = 1; i < rowLength(row); i++) {
                int link = linkBetween(rowPost(row, i - 1), rowPost(row, i));
                if (link != NONE) {
                    set |= 1 << link;
                }
            }
            return set;
        }

        int reachedFrom(int post, int failed) {
            int reached = 1 << post;
            // each round that goes on adds a post, so as many rounds as posts are enough
            for (int round = 0; round < MOST_POSTS; round++) {
                int ahead = reached;
                for (int link = 0; link < links && link < MOST_LINKS; link++) {
                    int ends = 1 << low[link] | 1 << high[link];
                    if ((failed >> link & 1) == 0 && (reached & ends) != 0) {
                        reached |= ends;
                    }
                }
                if (reached == ahead) {
                    return reached;
                }
            }
            return reached;
        }

        int partsWithout(int failed) {
            int parts = 0;
            int reached = 0;
            for (int post = 0; post < posts; post++) {
                if ((reached >> post & 1) == 0) {
                    parts++;
                    reached |= reachedFrom(post, failed);
                }
            }
            return parts;
        }

        void startDraws() {
            lastDraw = seed;
        }

        int drawFailed() {
            int failed = 0;
            for (int link = 0; link < links && link < MOST_LINKS; link++) {
                lastDraw = (lastDraw * 1103515245L + 12345L) % 2147483648L;
                if (lastDraw / 65536L % 10L < risk[link]) {
                    failed |= 1 << link;
                }
            }
            return failed;
        }

        static int rowLength(int row) {
            return row >> LENGTH_SHIFT;
        }

        static int rowPost(int row, int i) {
            return i >= 0 && i < rowLength(row) ? row >> i * POST_BITS & MOST_POSTS - 1 : NONE;
        }

        static int rowWith(int row, int post) {
            int length = rowLength(row);
            if (length >= MOST_POSTS || !isPostNumber(post)) {
                return row;
            }
            return (row | post << length * POST_BITS) + (1 << LENGTH_SHIFT);
        }

        static boolean isPostNumber(int post) {
            return post >= 0 && post < MOST_POSTS;
        }
    }

    /** The ways with their outcomes. */
    private static final class Ways {
        private final int[] rows = new int[MOST_WAYS];
        private final int[] links = new int[MOST_WAYS];
        private final int[] outcomes = new int[MOST_WAYS];
        int count = 0;

        void clear() {
            count = 0;
        }

        void copyFrom(Ways other) {
            for (int way = 0; way < MOST_WAYS; way++) {
                rows[way] = other.rows[way];
                links[way] = other.links[way];
                outcomes[way] = other.outcomes[way];
            }
            count = other.count;
        }

        boolean has(int way) {
            return way >= 0 && way < count && way < MOST_WAYS;
        }

        void add(int row, int itsLinks) {
            if (count >= 0 && count < MOST_WAYS) {
                rows[count] = row;
                links[count] = itsLinks;
                outcomes[count] = UNKNOWN;
                count++;
            }
        }

        void dropLast() {
            if (count > 0) {
                count--;
            }
        }

        void setOutcome(int way, int outcome) {
            if (has(way)) {
                outcomes[way] = outcome;
            }
        }

        int outcomeOf(int way) {
            return has(way) ? outcomes[way] : UNKNOWN;
        }

        int rowOf(int way) {
            return has(way) ? rows[way] : 0;
        }

        int linksOf(int way) {
            return has(way) ? links[way] : 0;
        }

        int all() {
            return (1 << count) - 1;
        }

        int good() {
            return withOutcome(GOOD);
        }

        int bad() {
            return withOutcome(BAD);
        }

        int known() {
            return good() | bad();
        }

        int withLink(int link) {
            int bits = 0;
            for (int way = 0; way < count && way < MOST_WAYS; way++) {
                bits |= (links[way] >> link & 1) << way;
            }
            return bits;
        }

        int seenLinks() {
            int seen = 0;
            for (int way = 0; way < count && way < MOST_WAYS; way++) {
                seen |= links[way];
            }
            return seen;
        }

        int clearedLinks() {
            int cleared = 0;
            for (int way = 0; way < count && way < MOST_WAYS; way++) {
                if (outcomes[way] == GOOD) {
                    cleared |= links[way];
                }
            }
            return cleared;
        }

        private int withOutcome(int outcome) {
            int bits = 0;
            for (int way = 0; way < count && way < MOST_WAYS; way++) {
                if (outcomes[way] == outcome) {
                    bits |= 1 << way;
                }
            }
            return bits;
        }
    }

    /** What was done by hand and can be undone, and what the slots hold. */
    private static final class Hand {
        static final int LAID = -1;

        private static final int MOST_DONE = 40;
        private static final int SLOTS = 3;
        private static final int OUTCOMES = 4;

        private final int[] things = new int[MOST_DONE];
        private final Ways[] slots = new Ways[SLOTS];
        private final boolean[] isHeld = new boolean[SLOTS];
        int done = 0;

        Hand() {
            for (int slot = 0; slot < SLOTS; slot++) {
                slots[slot] = new Ways();
            }
        }

        void noteLaid() {
            note(LAID);
        }

        void noteTold(int way, int outcomeAhead) {
            note(way * OUTCOMES + outcomeAhead);
        }

        static int wayOf(int thing) {
            return thing / OUTCOMES;
        }

        static int outcomeOf(int thing) {
            return thing % OUTCOMES;
        }

        /** Only if something is done. */
        int takeLast() {
            if (done <= 0 || done > MOST_DONE) {
                return NONE;
            }
            done--;
            return things[done];
        }

        void forgetAll() {
            done = 0;
            for (int slot = 0; slot < SLOTS; slot++) {
                isHeld[slot] = false;
            }
        }

        boolean keep(int slot, Ways ways) {
            if (!isSlot(slot) || slots[slot] == null) {
                return false;
            }
            slots[slot].copyFrom(ways);
            isHeld[slot] = true;
            return true;
        }

        boolean bringBack(int slot, Ways ways) {
            if (!isSlot(slot) || !isHeld[slot] || slots[slot] == null) {
                return false;
            }
            ways.copyFrom(slots[slot]);
            done = 0;
            return true;
        }

        int slotsHeld() {
            int held = 0;
            for (int slot = 0; slot < SLOTS; slot++) {
                held += isHeld[slot] ? 1 : 0;
            }
            return held;
        }

        private static boolean isSlot(int slot) {
            return slot >= 0 && slot < SLOTS;
        }

        private void note(int thing) {
            if (done >= MOST_DONE) {
                System.arraycopy(things, 1, things, 0, MOST_DONE - 1);
                done = MOST_DONE - 1;
            }
            if (done >= 0) {
                things[done] = thing;
                done++;
            }
        }
    }

    /** The paths of two posts, in their order. */
    private static final class Paths {
        // 8 posts and 12 links never make more than 37 paths of two posts (all such nets were counted)
        private static final int MOST_PATHS = 64;

        private final Net net;
        private final int[] rows = new int[MOST_PATHS];
        private final int[] links = new int[MOST_PATHS];
        private int from = NONE;
        private int to = NONE;
        private int wanted = 0;
        int count = 0;

        Paths(Net net) {
            this.net = net;
        }

        void forget() {
            from = NONE;
            to = NONE;
            count = 0;
        }

        boolean has(int i) {
            return i >= 0 && i < count && i < MOST_PATHS;
        }

        int rowOf(int i) {
            return has(i) ? rows[i] : 0;
        }

        int linksOf(int i) {
            return has(i) ? links[i] : 0;
        }

        /** The paths of the last two posts asked for stay till the net is another one. */
        void seek(int first, int last) {
            if (first == from && last == to) {
                return;
            }
            from = first;
            to = last;
            count = 0;
            for (int length = 2; length <= MOST_POSTS; length++) {
                wanted = length;
                extend(first, 1 << first, Net.rowWith(0, first), 0);
            }
        }

        /** The row grows by one at each level and is never longer than wanted. */
        private void extend(int last, int used, int row, int along) {
            int length = Net.rowLength(row) + 1;
            if (length > wanted || length > MOST_POSTS) {
                return;
            }
            for (int post = 0; post < net.posts; post++) {
                int link = net.linkBetween(last, post);
                if (link == NONE || (used >> post & 1) != 0) {
                    continue;
                }
                if (post != to) {
                    extend(post, used | 1 << post, Net.rowWith(row, post), along | 1 << link);
                } else if (length == wanted) {
                    add(Net.rowWith(row, post), along | 1 << link);
                }
            }
        }

        private void add(int row, int along) {
            if (count >= 0 && count < MOST_PATHS) {
                rows[count] = row;
                links[count] = along;
                count++;
            }
        }
    }

    /** All sets of links, by their numbers: what each does to the ways, and which explain the outcomes. */
    private static final class Sets {
        // of the sets of 12 links no more than these can stand side by side, none within another
        private static final int MOST_LEAN = 924;

        private final Net net;
        private final Ways ways;
        private final int[] traces = new int[MOST_SETS];
        private final long[] weights = new long[MOST_SETS];
        private final int[] tolls = new int[MOST_SETS];
        private final int[] within = new int[MOST_SETS];
        private final int[] found = new int[MOST_LEAN];
        private final int[] lean = new int[MOST_LEAN];
        private boolean isLeanFound = false;
        private boolean isWithinFound = false;
        int leanCount = 0;
        int inAllLean = 0;
        int inSomeLean = 0;

        Sets(Net net, Ways ways) {
            this.net = net;
            this.ways = ways;
            learnNet();
            learnWays();
        }

        /** Each link doubles the tables: the sets with it behind those without. */
        private void learnNet() {
            weights[0] = 1;
            tolls[0] = 0;
            for (int link = 0; link < net.links && link < MOST_LINKS; link++) {
                int bit = 1 << link;
                int risk = net.riskOf(link);
                for (int set = 0; set < bit; set++) {
                    weights[set + bit] = weights[set] * risk;
                    weights[set] *= 10 - risk;
                    tolls[set + bit] = tolls[set] + 10 - risk;
                }
            }
        }

        private void learnWays() {
            forgetFindings();
            traces[0] = 0;
            for (int link = 0; link < net.links && link < MOST_LINKS; link++) {
                int bit = 1 << link;
                int having = ways.withLink(link);
                for (int set = 0; set < bit; set++) {
                    traces[set + bit] = traces[set] | having;
                }
            }
        }

        void forgetFindings() {
            isLeanFound = false;
            isWithinFound = false;
        }

        int size() {
            return Math.min(net.setCount(), MOST_SETS);
        }

        int traceOf(int set) {
            return set >= 0 && set < MOST_SETS ? traces[set] : 0;
        }

        int tollOf(int set) {
            return set >= 0 && set < MOST_SETS ? tolls[set] : 0;
        }

        /** Whether a set explains all: of the known ways it makes bad just those that are. */
        boolean fits(int set, int known, int bad) {
            return (traceOf(set) & known) == bad;
        }

        boolean isLean(int set, int known, int bad) {
            if (!fits(set, known, bad)) {
                return false;
            }
            for (int link = 0; link < MOST_LINKS; link++) {
                int bit = 1 << link;
                if ((set & bit) != 0 && fits(set & ~bit, known, bad)) {
                    return false;
                }
            }
            return true;
        }

        int countUpTo(int size, int known, int bad) {
            int sum = 0;
            for (int set = 0, end = size(); set < end; set++) {
                if (fits(set, known, bad) && Integer.bitCount(set) <= size) {
                    sum++;
                }
            }
            return sum;
        }

        int heaviest(int known, int bad) {
            int best = NOTHING;
            long most = 0;
            for (int set = 0, end = size(); set < end; set++) {
                if (fits(set, known, bad) && weights[set] > most) {
                    most = weights[set];
                    best = set;
                }
            }
            return best;
        }

        /** The first lean set: one of the fewest links that explains can lose none. */
        int smallest(int known, int bad) {
            int best = NOTHING;
            int least = MOST_LINKS + 1;
            for (int set = 0, end = size(); set < end; set++) {
                if (fits(set, known, bad) && Integer.bitCount(set) < least) {
                    least = Integer.bitCount(set);
                    best = set;
                }
            }
            return best;
        }

        long weightOf(int having, int known, int bad) {
            long sum = 0;
            for (int set = 0, end = size(); set < end; set++) {
                if ((set & having) == having && fits(set, known, bad)) {
                    sum += weights[set];
                }
            }
            return sum;
        }

        /** If any set explains: a link is in all lean sets if the rest of what is not cleared does not explain. */
        int sureLinks(int known, int bad) {
            int open = 0;
            for (int link = 0; link < net.links; link++) {
                if ((traceOf(1 << link) & known & ~bad) == 0) {
                    open |= 1 << link;
                }
            }
            int sure = 0;
            for (int link = 0; link < net.links; link++) {
                int bit = 1 << link;
                if ((open & bit) != 0 && !fits(open & ~bit, known, bad)) {
                    sure |= bit;
                }
            }
            return sure;
        }

        void findLean() {
            if (isLeanFound) {
                return;
            }
            isLeanFound = true;
            leanCount = 0;
            inAllLean = net.allLinks();
            inSomeLean = 0;
            int all = gatherLean();
            for (int size = 0; size <= net.links; size++) {
                for (int i = 0; i < all && i < MOST_LEAN; i++) {
                    if (Integer.bitCount(found[i]) == size) {
                        addLean(found[i]);
                    }
                }
            }
            if (leanCount == 0) {
                inAllLean = 0;
            }
        }

        private int gatherLean() {
            int all = 0;
            int known = ways.known();
            int bad = ways.bad();
            for (int set = 0, end = size(); set < end; set++) {
                if (isLean(set, known, bad) && all < MOST_LEAN) {
                    found[all] = set;
                    all++;
                }
            }
            return all;
        }

        private void addLean(int set) {
            if (leanCount >= 0 && leanCount < MOST_LEAN) {
                lean[leanCount] = set;
                leanCount++;
                inAllLean &= set;
                inSomeLean |= set;
            }
        }

        int leanAt(int i) {
            return i >= 0 && i < leanCount && i < MOST_LEAN ? lean[i] : NONE;
        }

        /** Right after findLean(). */
        int idleLinks() {
            return leanCount == 0 ? 0 : net.allLinks() & ~ways.clearedLinks() & ~inSomeLean;
        }

        int stateOf(int link) {
            findLean();
            if (leanCount == 0) {
                return NOTHING;
            }
            if ((ways.clearedLinks() >> link & 1) != 0) {
                return 0;
            }
            if ((inAllLean >> link & 1) != 0) {
                return 1;
            }
            return (inSomeLean >> link & 1) != 0 ? 2 : 3;
        }

        /** How many sets still explain if these links were tried as one way, by the outcome that leaves more. */
        int mostLeftBy(int links) {
            findWithin();
            int all = net.allLinks();
            int clear = all & ~links;
            if (clear < 0 || all < 0 || clear >= MOST_SETS || all >= MOST_SETS) {
                return 0;
            }
            return Math.max(within[clear], within[all] - within[clear]);
        }

        /** For each set: how many sets inside it explain, added up link by link. */
        private void findWithin() {
            if (isWithinFound) {
                return;
            }
            isWithinFound = true;
            int known = ways.known();
            int bad = ways.bad();
            for (int set = 0, end = size(); set < end; set++) {
                within[set] = fits(set, known, bad) ? 1 : 0;
            }
            for (int link = 0; link < net.links; link++) {
                int bit = 1 << link;
                for (int set = 0, end = size(); set < end; set++) {
                    if ((set & bit) != 0) {
                        within[set] += within[set & ~bit];
                    }
                }
            }
        }
    }

    /** Sets that need not explain all, and outcomes that can't all be believed. */
    private static final class Trust {
        private static final int BEYOND_COST = 1000000;

        private final Net net;
        private final Ways ways;
        private final Sets sets;
        private final byte[] isCounted = new byte[MOST_SETS];
        int cheapestSet = 0;
        int leastCost = 0;
        int asCheap = 0;

        Trust(Net net, Ways ways, Sets sets) {
            this.net = net;
            this.ways = ways;
            this.sets = sets;
        }

        /** The known ways whose outcome is another one than a set gives. */
        int contradicted(int set, int known, int bad) {
            return (sets.traceOf(set) ^ bad) & known;
        }

        void findCheapest() {
            int known = ways.known();
            int bad = ways.bad();
            cheapestSet = 0;
            leastCost = BEYOND_COST;
            asCheap = 0;
            for (int set = 0, end = sets.size(); set < end; set++) {
                int wrong = Integer.bitCount(contradicted(set, known, bad));
                int cost = sets.tollOf(set) + net.price * wrong;
                if (cost < leastCost) {
                    leastCost = cost;
                    cheapestSet = set;
                    asCheap = 1;
                } else if (cost == leastCost) {
                    asCheap++;
                    if (Integer.bitCount(set) < Integer.bitCount(cheapestSet)) {
                        cheapestSet = set;
                    }
                }
            }
        }

        /** A set explains without the outcomes that it contradicts, and needs all of these gone. */
        int fewestWrong() {
            int known = ways.known();
            int bad = ways.bad();
            int best = known;
            for (int set = 0, end = sets.size(); set < end; set++) {
                int wrong = contradicted(set, known, bad);
                if (comesAhead(wrong, best)) {
                    best = wrong;
                }
            }
            return best;
        }

        int countFewestWrong(int having) {
            int fewest = Integer.bitCount(fewestWrong());
            int known = ways.known();
            int bad = ways.bad();
            int sum = 0;
            Arrays.fill(isCounted, (byte) 0);
            for (int set = 0, end = sets.size(); set < end; set++) {
                int wrong = contradicted(set, known, bad);
                if (wrong < 0 || wrong >= MOST_SETS || isCounted[wrong] != 0) {
                    continue;
                }
                isCounted[wrong] = 1;
                if (Integer.bitCount(wrong) == fewest && (wrong & having) == having) {
                    sum++;
                }
            }
            return sum;
        }
    }

    /** What the ways can tell apart. */
    private static final class Sight {
        // each seen link must be met, and each two of them be told apart
        private static final int MOST_DEMANDS = MOST_LINKS * (MOST_LINKS + 1) / 2;
        private static final int UNMET = 99;

        private final Net net;
        private final Ways ways;
        private final Sets sets;
        private final byte[] leastSize = new byte[MOST_SETS];
        private final int[] demands = new int[MOST_DEMANDS];
        private int demandCount = 0;

        Sight(Net net, Ways ways, Sets sets) {
            this.net = net;
            this.ways = ways;
            this.sets = sets;
        }

        /** Two sets of one trace clash at the size of the greater; the level stays below the least clash. */
        int highestLevel() {
            int seen = ways.seenLinks();
            int level = Integer.bitCount(seen);
            Arrays.fill(leastSize, (byte) UNMET);
            for (int set = 0, end = sets.size(); set < end; set++) {
                int trace = sets.traceOf(set);
                if ((set & ~seen) != 0 || trace < 0 || trace >= MOST_SETS) {
                    continue;
                }
                int size = Integer.bitCount(set);
                int ahead = leastSize[trace];
                if (ahead != UNMET) {
                    level = Math.min(level, Math.max(size, ahead) - 1);
                }
                leastSize[trace] = (byte) Math.min(size, ahead);
            }
            return level;
        }

        int twinOf(int link) {
            int trace = sets.traceOf(1 << link);
            for (int other = 0; other < net.links; other++) {
                if (other != link && sets.traceOf(1 << other) == trace) {
                    return other;
                }
            }
            return NOTHING;
        }

        /** The first of the fewest ways that meet all demands (all ways do). */
        int fewestWays(boolean isApart) {
            gatherDemands(isApart);
            int best = ways.all();
            for (int some = 0, all = ways.all(); some < all; some++) {
                if (comesAhead(some, best) && meetsDemands(some)) {
                    best = some;
                }
            }
            return best;
        }

        private void gatherDemands(boolean isApart) {
            demandCount = 0;
            for (int link = 0; link < net.links; link++) {
                int trace = sets.traceOf(1 << link);
                addDemand(trace);
                for (int other = 0; other < link && isApart && trace != 0; other++) {
                    int otherTrace = sets.traceOf(1 << other);
                    if (otherTrace != 0) {
                        addDemand(trace ^ otherTrace);
                    }
                }
            }
        }

        /** A demand: one at least of these ways. No ways at all: nothing can be asked. */
        private void addDemand(int anyOf) {
            if (anyOf != 0 && demandCount >= 0 && demandCount < MOST_DEMANDS) {
                demands[demandCount] = anyOf;
                demandCount++;
            }
        }

        private boolean meetsDemands(int some) {
            for (int i = 0; i < demandCount && i < MOST_DEMANDS; i++) {
                if ((demands[i] & some) == 0) {
                    return false;
                }
            }
            return true;
        }
    }

    /** How many tries it takes at most to know which single link has failed. */
    private static final class Trial {
        private static final int MOST_KINDS = MOST_LINKS + 1;
        private static final int OPEN = -1;
        private static final int NEVER = 99;

        private final Net net;
        private final Ways ways;
        private final Sets sets;
        // singles that no unknown way tells apart are of one kind
        private final int[] kindTraces = new int[MOST_KINDS];
        private final int[] kindsHit = new int[MOST_WAYS];
        private final byte[] triesFor = new byte[1 << MOST_KINDS];
        private int kindCount = 0;

        Trial(Net net, Ways ways, Sets sets) {
            this.net = net;
            this.ways = ways;
            this.sets = sets;
        }

        int fewestTries() {
            int unknown = ways.all() & ~ways.known();
            gatherKinds(unknown);
            for (int way = 0; way < MOST_WAYS; way++) {
                kindsHit[way] = (unknown >> way & 1) != 0 ? kindsWith(way) : 0;
            }
            Arrays.fill(triesFor, (byte) OPEN);
            return triesAmong(allKinds(), 0);
        }

        /** Right after fewestTries(), if that is above 0. */
        int firstWay(int most) {
            for (int way = 0; way < MOST_WAYS; way++) {
                if (triesFrom(way, allKinds(), 0) == most) {
                    return way;
                }
            }
            return NOTHING;
        }

        private int allKinds() {
            return (1 << kindCount) - 1;
        }

        private void gatherKinds(int unknown) {
            int known = ways.known();
            int bad = ways.bad();
            kindCount = 0;
            if (sets.fits(0, known, bad)) {
                addKind(0);
            }
            for (int link = 0; link < net.links; link++) {
                if (sets.fits(1 << link, known, bad)) {
                    addKind(sets.traceOf(1 << link) & unknown);
                }
            }
        }

        private void addKind(int trace) {
            for (int kind = 0; kind < kindCount && kind < MOST_KINDS; kind++) {
                if (kindTraces[kind] == trace) {
                    return;
                }
            }
            if (kindCount >= 0 && kindCount < MOST_KINDS) {
                kindTraces[kindCount] = trace;
                kindCount++;
            }
        }

        private int kindsWith(int way) {
            int hit = 0;
            for (int kind = 0; kind < kindCount && kind < MOST_KINDS; kind++) {
                hit |= (kindTraces[kind] >> way & 1) << kind;
            }
            return hit;
        }

        /** Each level has fewer kinds left than the one above it. */
        private int triesAmong(int left, int depth) {
            if (Integer.bitCount(left) <= 1 || depth > MOST_KINDS || left < 0 || left >= triesFor.length) {
                return 0;
            }
            if (triesFor[left] != OPEN) {
                return triesFor[left];
            }
            int least = NEVER;
            int floor = fewestFor(Integer.bitCount(left));
            for (int way = 0; way < MOST_WAYS && least > floor; way++) {
                least = Math.min(least, triesFrom(way, left, depth));
            }
            triesFor[left] = (byte) least;
            return least;
        }

        private int triesFrom(int way, int left, int depth) {
            if (way < 0 || way >= MOST_WAYS) {
                return NEVER;
            }
            int hit = left & kindsHit[way];
            int unhit = left & ~kindsHit[way];
            if (hit == 0 || unhit == 0) {
                return NEVER;
            }
            return 1 + Math.max(triesAmong(hit, depth + 1), triesAmong(unhit, depth + 1));
        }

        /** So many kinds can't be told apart by fewer tries, as each halves them at best. */
        private static int fewestFor(int kinds) {
            int tries = 0;
            for (int told = 1; told < kinds && tries < MOST_KINDS; told *= 2) {
                tries++;
            }
            return tries;
        }
    }

    /** The fewest short paths between eyes that have, or tell apart, all links that any has. */
    private static final class Planner {
        // four eyes never have more than 118 paths of 5 posts at most (all such nets were counted)
        private static final int MOST_SHORT = 128;
        private static final int MOST_ROW = 5;
        private static final int MOST_PICKS = 3;
        private static final int MOST_TOLD = 7;

        private final Net net;
        private final Paths paths;
        private final int[] links = new int[MOST_SHORT];
        private final int[] parts = new int[MOST_SHORT];
        private final int[] numbers = new int[MOST_SHORT];
        private final int[] sizes = new int[2];
        private final int[] picks = new int[2 * MOST_PICKS];
        private int partCount = 0;
        private int full = 0;
        private boolean isApart = false;
        private boolean isReady = false;
        int count = 0;

        Planner(Net net, Paths paths) {
            this.net = net;
            this.paths = paths;
        }

        void forget() {
            isReady = false;
        }

        /** Plans hang on the text alone. */
        void ready() {
            if (isReady) {
                return;
            }
            isReady = true;
            gatherShort();
            gatherParts();
            choose(0);
            choose(1);
        }

        int sizeOf(int what) {
            return what == 0 || what == 1 ? sizes[what] : NONE;
        }

        int pickOf(int what, int i) {
            boolean isPick = (what == 0 || what == 1) && i >= 0 && i < MOST_PICKS;
            return isPick ? picks[what * MOST_PICKS + i] : NONE;
        }

        private void gatherShort() {
            count = 0;
            for (int one = 0; one < net.posts; one++) {
                for (int other = one + 1; other < net.posts; other++) {
                    if ((net.eyes >> one & net.eyes >> other & 1) != 0) {
                        paths.seek(one, other);
                        addShort();
                    }
                }
            }
        }

        private void addShort() {
            for (int i = 0; i < paths.count; i++) {
                if (Net.rowLength(paths.rowOf(i)) <= MOST_ROW && count >= 0 && count < MOST_SHORT) {
                    links[count] = paths.linksOf(i);
                    count++;
                }
            }
        }

        /**
         * Links that no path tells apart count as one, by the lowest of them. Of paths that are then alike
         * the first stands for all: a choice with a later one is behind the same choice with the first.
         */
        private void gatherParts() {
            full = 0;
            for (int link = 0; link < net.links; link++) {
                if (isOnPath(link) && !hasLowerLike(link)) {
                    full |= 1 << link;
                }
            }
            partCount = 0;
            for (int i = 0; i < count && i < MOST_SHORT; i++) {
                addPart(links[i] & full, i);
            }
        }

        private boolean isOnPath(int link) {
            for (int i = 0; i < count && i < MOST_SHORT; i++) {
                if ((links[i] >> link & 1) != 0) {
                    return true;
                }
            }
            return false;
        }

        private boolean hasLowerLike(int link) {
            for (int lower = 0; lower < link; lower++) {
                if (areAlike(lower, link)) {
                    return true;
                }
            }
            return false;
        }

        private boolean areAlike(int one, int other) {
            for (int i = 0; i < count && i < MOST_SHORT; i++) {
                if (((links[i] >> one ^ links[i] >> other) & 1) != 0) {
                    return false;
                }
            }
            return true;
        }

        private void addPart(int part, int number) {
            for (int i = 0; i < partCount && i < MOST_SHORT; i++) {
                if (parts[i] == part) {
                    return;
                }
            }
            if (partCount >= 0 && partCount < MOST_SHORT) {
                parts[partCount] = part;
                numbers[partCount] = number;
                partCount++;
            }
        }

        private void choose(int what) {
            isApart = what == 1;
            int size = NOTHING;
            if (full == 0) {
                size = 0;
            } else if (findOne(what)) {
                size = 1;
            } else if (findTwo(what)) {
                size = 2;
            } else if (findThree(what)) {
                size = 3;
            }
            if (what == 0 || what == 1) {
                sizes[what] = size;
            }
        }

        private boolean findOne(int what) {
            for (int i = 0; i < partCount && i < MOST_SHORT; i++) {
                if (isEnough(parts[i], 0, 0)) {
                    pick(what, 0, i);
                    return true;
                }
            }
            return false;
        }

        private boolean findTwo(int what) {
            for (int i = 0; i < partCount && i < MOST_SHORT; i++) {
                for (int j = i + 1; j < partCount && j < MOST_SHORT; j++) {
                    if (isEnough(parts[i], parts[j], 0)) {
                        pick(what, 0, i);
                        pick(what, 1, j);
                        return true;
                    }
                }
            }
            return false;
        }

        private boolean findThree(int what) {
            if (isApart && Integer.bitCount(full) > MOST_TOLD) {
                return false;
            }
            for (int i = 0; i < partCount && i < MOST_SHORT; i++) {
                for (int j = i + 1; j < partCount && j < MOST_SHORT; j++) {
                    int third = thirdFor(i, j);
                    if (third != NONE) {
                        pick(what, 0, i);
                        pick(what, 1, j);
                        pick(what, 2, third);
                        return true;
                    }
                }
            }
            return false;
        }

        private int thirdFor(int i, int j) {
            if (i < 0 || j < 0 || i >= MOST_SHORT || j >= MOST_SHORT) {
                return NONE;
            }
            int missing = full & ~parts[i] & ~parts[j];
            if (Integer.bitCount(missing) >= MOST_ROW) {
                return NONE;
            }
            for (int k = j + 1; k < partCount && k < MOST_SHORT; k++) {
                if ((parts[k] & missing) == missing && isEnough(parts[i], parts[j], parts[k])) {
                    return k;
                }
            }
            return NONE;
        }

        private boolean isEnough(int a, int b, int c) {
            if ((a | b | c) != full) {
                return false;
            }
            if (!isApart) {
                return true;
            }
            boolean isToldByAB = isOneAtMost(a & b & ~c) && isOneAtMost(a & ~b & ~c) && isOneAtMost(~a & b & ~c);
            return isToldByAB && isOneAtMost(a & b & c) && isOneAtMost(a & ~b & c)
                && isOneAtMost(~a & b & c) && isOneAtMost(~a & ~b & c);
        }

        private static boolean isOneAtMost(int bits) {
            return (bits & bits - 1) == 0;
        }

        private void pick(int what, int at, int part) {
            boolean isPick = (what == 0 || what == 1) && at >= 0 && at < MOST_PICKS;
            if (isPick && part >= 0 && part < MOST_SHORT) {
                picks[what * MOST_PICKS + at] = numbers[part];
            }
        }
    }
}
