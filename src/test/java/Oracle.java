import java.math.BigInteger;
import java.util.ArrayList;
import java.util.Arrays;
import java.util.Collections;
import java.util.Comparator;
import java.util.HashMap;
import java.util.HashSet;
import java.util.List;
import java.util.Map;
import java.util.Set;
import java.util.TreeSet;

/** The document word for word, without any thought of speed: what FuzzTest holds the class against. */
final class Oracle {
    static final int NONE = -1;
    static final Set<String> WORDS = Set.of("post", "link", "way", "good", "bad", "eye", "price", "seed");

    private StringBuilder tape = new StringBuilder();
    private int place = NONE;

    private int posts = 0;
    private List<int[]> links = new ArrayList<>();
    private Set<Integer> eyes = new TreeSet<>();
    private int price = 20;
    private int seed = 0;
    private List<Way> ways = new ArrayList<>();

    private List<List<Way>> past = new ArrayList<>();
    private Map<Integer, List<Way>> slots = new HashMap<>();

    private record Way(List<Integer> row, int links, int outcome) {
    }

    private record Token(String text, int place) {
        boolean isName() {
            return text.matches("[a-z]{1,8}") && !WORDS.contains(text);
        }

        boolean isInt() {
            return text.matches("[0-9]{1,4}");
        }

        int value() {
            return Integer.parseInt(text);
        }
    }

    private record Fault(int place, int number) {
    }

    // ---- the tape and the text

    int feed(int a, int b, int c, int d, int e) {
        if (tape.length() + 20 > 2000) {
            return NONE;
        }
        for (int word : new int[] {a, b, c, d, e}) {
            for (int k = 3; k >= 0; k--) {
                tape.append((char) (word >>> 8 * k & 255));
            }
        }
        return tape.length();
    }

    int back(int n) {
        if (n < 0 || n > tape.length()) {
            return NONE;
        }
        tape.setLength(tape.length() - n);
        return tape.length();
    }

    int read() {
        String text = tape.toString();
        tape = new StringBuilder();
        List<Token> tokens = tokens(text);
        List<Fault> faults = new ArrayList<>();
        List<List<Token>> lines = lines(tokens, text.length(), faults);
        if (faults.isEmpty()) {
            laterFaults(lines, faults);
        }
        if (!faults.isEmpty()) {
            Fault first = Collections.min(faults, Comparator.comparingInt(Fault::place).thenComparingInt(Fault::number));
            place = first.place;
            return first.number;
        }
        place = NONE;
        take(lines);
        return 0;
    }

    private static List<Token> tokens(String text) {
        List<Token> tokens = new ArrayList<>();
        var matcher = java.util.regex.Pattern.compile("[a-z]+|[0-9]+|[^\\t\\n\\r ]", java.util.regex.Pattern.DOTALL).matcher(text);
        while (matcher.find()) {
            tokens.add(new Token(matcher.group(), matcher.start()));
        }
        return tokens;
    }

    /** Each line's form as a regular expression over letters for its tokens; a prefix counts if it can be completed. */
    private static List<List<Token>> lines(List<Token> tokens, int end, List<Fault> faults) {
        List<List<Token>> lines = new ArrayList<>();
        List<Token> line = new ArrayList<>();
        Map<String, Integer> told = new HashMap<>();
        Map<String, Integer> most = Map.of("post", 8, "link", 12, "way", 12, "eye", 4);
        for (int i = 0; i < tokens.size(); i++) {
            Token token = tokens.get(i);
            line.add(token);
            String form = form(line);
            if (!canGoOn(form)) {
                faults.add(new Fault(token.place, 1));
                return lines;
            }
            if (i >= 400) {
                faults.add(new Fault(token.place, 2));
            }
            if (line.size() == 1) {
                int n = told.merge(token.text, 1, Integer::sum);
                if (n > most.getOrDefault(token.text, 1000000)) {
                    faults.add(new Fault(token.place, 2));
                }
            }
            if (form.matches("Wn{10,}")) {
                faults.add(new Fault(token.place, 2));
            }
            if (token.text.equals(";")) {
                lines.add(line);
                line = new ArrayList<>();
            }
        }
        if (!line.isEmpty()) {
            faults.add(new Fault(end, 1));
        }
        return lines;
    }

    private static String form(List<Token> line) {
        StringBuilder form = new StringBuilder();
        for (Token t : line) {
            form.append(switch (t.text) {
                case "post" -> 'P';
                case "link" -> 'L';
                case "way" -> 'W';
                case "good", "bad", "eye" -> 'G';
                case "price", "seed" -> 'R';
                case ";" -> ';';
                default -> t.isName() ? 'n' : t.isInt() ? 'i' : '?';
            });
        }
        return form.toString();
    }

    private static boolean canGoOn(String form) {
        return form.matches("[PG](n;?)?|L(n(n(i;?)?)?)?|W(n(n(n+;?)?)?)?|R(i;?)?");
    }

    private static void laterFaults(List<List<Token>> lines, List<Fault> faults) {
        Map<String, String> first = new HashMap<>();
        for (List<Token> line : lines) {
            String word = line.get(0).text;
            if (word.equals("post") || word.equals("way")) {
                if (first.putIfAbsent(line.get(1).text, word) != null) {
                    faults.add(new Fault(line.get(1).place, 3));
                }
            }
        }
        Set<Set<String>> joined = new HashSet<>();
        for (List<Token> line : lines) {
            if (line.get(0).text.equals("link")) {
                String a = line.get(1).text;
                String b = line.get(2).text;
                boolean both = isPost(first, a) && isPost(first, b);
                if (both && (a.equals(b) || joined.contains(Set.of(a, b)))) {
                    faults.add(new Fault(line.get(2).place, 3));
                }
                if (both && !a.equals(b)) {
                    joined.add(Set.of(a, b));
                }
            }
        }
        for (List<Token> line : lines) {
            nameFaults(line, first, faults);
            wrongFaults(line, first, joined, faults);
        }
    }

    private static boolean isPost(Map<String, String> first, String name) {
        return "post".equals(first.get(name));
    }

    private static void nameFaults(List<Token> line, Map<String, String> first, List<Fault> faults) {
        String word = line.get(0).text;
        List<Token> asPosts = switch (word) {
            case "link" -> line.subList(1, 3);
            case "way" -> line.subList(2, line.size() - 1);
            case "eye" -> line.subList(1, 2);
            default -> List.of();
        };
        for (Token t : asPosts) {
            if (!isPost(first, t.text)) {
                faults.add(new Fault(t.place, 4));
            }
        }
        if ((word.equals("good") || word.equals("bad")) && !"way".equals(first.get(line.get(1).text))) {
            faults.add(new Fault(line.get(1).place, 4));
        }
    }

    private static void wrongFaults(List<Token> line, Map<String, String> first, Set<Set<String>> joined, List<Fault> faults) {
        String word = line.get(0).text;
        if (word.equals("link") && !(line.get(3).value() >= 1 && line.get(3).value() <= 9)) {
            faults.add(new Fault(line.get(3).place, 5));
        }
        if (word.equals("price") && !(line.get(1).value() >= 1 && line.get(1).value() <= 99)) {
            faults.add(new Fault(line.get(1).place, 5));
        }
        if (!word.equals("way")) {
            return;
        }
        List<Token> row = line.subList(2, line.size() - 1);
        for (int i = 0; i < row.size(); i++) {
            Token t = row.get(i);
            boolean again = false;
            for (int j = 0; j < i; j++) {
                again |= row.get(j).text.equals(t.text);
            }
            boolean apart = i > 0 && isPost(first, t.text) && isPost(first, row.get(i - 1).text)
                && !t.text.equals(row.get(i - 1).text) && !joined.contains(Set.of(t.text, row.get(i - 1).text));
            if (isPost(first, t.text) && again || apart) {
                faults.add(new Fault(t.place, 5));
            }
        }
    }

    private void take(List<List<Token>> lines) {
        posts = 0;
        links = new ArrayList<>();
        eyes = new TreeSet<>();
        price = 20;
        seed = 0;
        ways = new ArrayList<>();
        past = new ArrayList<>();
        slots = new HashMap<>();
        Map<String, Integer> postOf = new HashMap<>();
        Map<String, Integer> outcomeOf = new HashMap<>();
        for (List<Token> line : lines) {
            if (line.get(0).text.equals("post")) {
                postOf.put(line.get(1).text, posts++);
            }
        }
        for (List<Token> line : lines) {
            String own = line.get(1).text;
            switch (line.get(0).text) {
                case "link" -> {
                    int a = postOf.get(own);
                    int b = postOf.get(line.get(2).text);
                    links.add(new int[] {Math.min(a, b), Math.max(a, b), line.get(3).value()});
                }
                case "eye" -> eyes.add(postOf.get(own));
                case "price" -> price = line.get(1).value();
                case "seed" -> seed = line.get(1).value();
                case "good" -> outcomeOf.put(own, 1);
                case "bad" -> outcomeOf.put(own, 2);
                default -> { }
            }
        }
        for (List<Token> line : lines) {
            if (line.get(0).text.equals("way")) {
                List<Integer> row = new ArrayList<>();
                for (Token t : line.subList(2, line.size() - 1)) {
                    row.add(postOf.get(t.text));
                }
                ways.add(new Way(row, linksOf(row), outcomeOf.getOrDefault(line.get(1).text, 0)));
            }
        }
    }

    int place() {
        return place;
    }

    // ---- by hand

    boolean tell(int way, int outcome) {
        if (!isWay(way) || outcome < 0 || outcome > 2 || ways.get(way).outcome == outcome) {
            return false;
        }
        remember();
        ways.set(way, new Way(ways.get(way).row, ways.get(way).links, outcome));
        return true;
    }

    int lay(int from, int to, int i) {
        if (!areTwoPosts(from, to) || ways.size() == 12) {
            return NONE;
        }
        List<List<Integer>> all = paths(from, to);
        if (i < 0 || i >= all.size()) {
            return NONE;
        }
        remember();
        ways.add(new Way(all.get(i), linksOf(all.get(i)), 0));
        return ways.size() - 1;
    }

    private void remember() {
        past.add(new ArrayList<>(ways));
        if (past.size() > 40) {
            past.remove(0);
        }
    }

    boolean undo() {
        if (past.isEmpty()) {
            return false;
        }
        ways = past.remove(past.size() - 1);
        return true;
    }

    boolean hold(int slot) {
        if (slot < 0 || slot > 2) {
            return false;
        }
        slots.put(slot, new ArrayList<>(ways));
        return true;
    }

    boolean restore(int slot) {
        if (!slots.containsKey(slot)) {
            return false;
        }
        ways = new ArrayList<>(slots.get(slot));
        past.clear();
        return true;
    }

    // ---- plain looks

    private boolean isWay(int way) {
        return way >= 0 && way < ways.size();
    }

    private boolean isLink(int link) {
        return link >= 0 && link < links.size();
    }

    private boolean isSet(int set) {
        return set >= 0 && set < 1 << links.size();
    }

    private boolean areTwoPosts(int from, int to) {
        return from >= 0 && from < posts && to >= 0 && to < posts && from != to;
    }

    private static boolean has(int bits, int i) {
        return (bits >> i & 1) == 1;
    }

    private int linkOf(int a, int b) {
        for (int i = 0; i < links.size(); i++) {
            if (links.get(i)[0] == Math.min(a, b) && links.get(i)[1] == Math.max(a, b)) {
                return i;
            }
        }
        return NONE;
    }

    private int linksOf(List<Integer> row) {
        int bits = 0;
        for (int i = 1; i < row.size(); i++) {
            bits |= 1 << linkOf(row.get(i - 1), row.get(i));
        }
        return bits;
    }

    int link(int link, int what) {
        if (!isLink(link)) {
            return NONE;
        }
        if (what >= 0 && what <= 2) {
            return links.get(link)[what];
        }
        return what == 3 ? trace(1 << link) : what == 4 ? state(link) : NONE;
    }

    int way(int way, int what) {
        if (!isWay(way)) {
            return NONE;
        }
        Way w = ways.get(way);
        return what == 0 ? w.outcome : what == 1 ? w.links : what == 2 ? w.row.size() : NONE;
    }

    int post(int way, int i) {
        return isWay(way) && i >= 0 && i < ways.get(way).row.size() ? ways.get(way).row.get(i) : NONE;
    }

    // ---- what explains

    private int[] outcomes() {
        return ways.stream().mapToInt(Way::outcome).toArray();
    }

    private boolean explains(int set, int[] outcomes) {
        for (int w = 0; w < ways.size(); w++) {
            boolean hit = (ways.get(w).links & set) != 0;
            if (outcomes[w] == 1 && hit || outcomes[w] == 2 && !hit) {
                return false;
            }
        }
        return true;
    }

    private List<Integer> explaining(int[] outcomes) {
        List<Integer> all = new ArrayList<>();
        for (int set = 0; set < 1 << links.size(); set++) {
            if (explains(set, outcomes)) {
                all.add(set);
            }
        }
        return all;
    }

    private boolean isLean(int set, int[] outcomes) {
        if (!explains(set, outcomes)) {
            return false;
        }
        for (int l = 0; l < links.size(); l++) {
            if (has(set, l) && explains(set - (1 << l), outcomes)) {
                return false;
            }
        }
        return true;
    }

    private List<Integer> leanSets(int[] outcomes) {
        List<Integer> lean = new ArrayList<>();
        for (int set : explaining(outcomes)) {
            if (isLean(set, outcomes)) {
                lean.add(set);
            }
        }
        lean.sort(Comparator.<Integer>comparingInt(Integer::bitCount).thenComparingInt(s -> s));
        return lean;
    }

    private boolean isCleared(int link) {
        for (Way w : ways) {
            if (w.outcome == 1 && has(w.links, link)) {
                return true;
            }
        }
        return false;
    }

    private int state(int link) {
        List<Integer> lean = leanSets(outcomes());
        if (lean.isEmpty()) {
            return -2;
        }
        if (isCleared(link)) {
            return 0;
        }
        long in = lean.stream().filter(s -> has(s, link)).count();
        return in == lean.size() ? 1 : in > 0 ? 2 : 3;
    }

    int sets(int n) {
        if (n < 0 || n > 12) {
            return NONE;
        }
        return (int) explaining(outcomes()).stream().filter(s -> Integer.bitCount(s) <= n).count();
    }

    int lean(int i) {
        List<Integer> lean = leanSets(outcomes());
        return i == NONE ? lean.size() : i >= 0 && i < lean.size() ? lean.get(i) : NONE;
    }

    int explains(int set) {
        if (!isSet(set)) {
            return NONE;
        }
        return isLean(set, outcomes()) ? 2 : explains(set, outcomes()) ? 1 : 0;
    }

    private long weightOfSet(int set) {
        long product = 1;
        for (int l = 0; l < links.size(); l++) {
            int risk = links.get(l)[2];
            product *= has(set, l) ? risk : 10 - risk;
        }
        return product;
    }

    private int likeliest(int[] outcomes) {
        int best = -2;
        for (int set : explaining(outcomes)) {
            if (best == -2 || weightOfSet(set) > weightOfSet(best)) {
                best = set;
            }
        }
        return best;
    }

    int likeliest() {
        return likeliest(outcomes());
    }

    long weight(int link) {
        if (link != NONE && !isLink(link)) {
            return NONE;
        }
        long sum = 0;
        for (int set : explaining(outcomes())) {
            sum += link == NONE || has(set, link) ? weightOfSet(set) : 0;
        }
        return sum;
    }

    private int contradicted(int set) {
        int bits = 0;
        for (int w = 0; w < ways.size(); w++) {
            int given = (ways.get(w).links & set) != 0 ? 2 : 1;
            if (ways.get(w).outcome != 0 && ways.get(w).outcome != given) {
                bits |= 1 << w;
            }
        }
        return bits;
    }

    private int cost(int set) {
        int sum = price * Integer.bitCount(contradicted(set));
        for (int l = 0; l < links.size(); l++) {
            sum += has(set, l) ? 10 - links.get(l)[2] : 0;
        }
        return sum;
    }

    int cheapest(int what) {
        List<Integer> all = new ArrayList<>();
        for (int set = 0; set < 1 << links.size(); set++) {
            all.add(set);
        }
        int[] costs = all.stream().mapToInt(this::cost).toArray();
        int best = Collections.min(all, Comparator.<Integer>comparingInt(s -> costs[s])
            .thenComparingInt(Integer::bitCount).thenComparingInt(s -> s));
        return switch (what) {
            case 0 -> best;
            case 1 -> costs[best];
            case 2 -> contradicted(best);
            case 3 -> (int) Arrays.stream(costs).filter(c -> c == costs[best]).count();
            default -> NONE;
        };
    }

    // ---- sets of ways, in order

    private static List<Integer> members(int bits) {
        List<Integer> list = new ArrayList<>();
        for (int i = 0; i < 31; i++) {
            if (has(bits, i)) {
                list.add(i);
            }
        }
        return list;
    }

    private static int compareRows(List<Integer> a, List<Integer> b) {
        if (a.size() != b.size()) {
            return Integer.compare(a.size(), b.size());
        }
        for (int i = 0; i < a.size(); i++) {
            if (!a.get(i).equals(b.get(i))) {
                return Integer.compare(a.get(i), b.get(i));
            }
        }
        return 0;
    }

    private List<List<Integer>> setsOfWays() {
        List<List<Integer>> all = new ArrayList<>();
        for (int bits = 0; bits < 1 << ways.size(); bits++) {
            all.add(members(bits));
        }
        all.sort(Oracle::compareRows);
        return all;
    }

    private boolean explainedWithout(List<Integer> gone) {
        int[] outcomes = outcomes();
        for (int w : gone) {
            outcomes[w] = 0;
        }
        for (int set = 0; set < 1 << links.size(); set++) {
            if (explains(set, outcomes)) {
                return true;
            }
        }
        return false;
    }

    private List<Integer> firstDisbelieved() {
        for (List<Integer> gone : setsOfWays()) {
            if (explainedWithout(gone)) {
                return gone;
            }
        }
        throw new IllegalStateException();
    }

    private static int ith(List<Integer> list, int i) {
        return i == NONE ? list.size() : i >= 0 && i < list.size() ? list.get(i) : NONE;
    }

    int disbelieved(int i) {
        return ith(firstDisbelieved(), i);
    }

    int blamed(int way) {
        if (way != NONE && !isWay(way)) {
            return NONE;
        }
        int few = firstDisbelieved().size();
        int sum = 0;
        for (List<Integer> gone : setsOfWays()) {
            boolean known = gone.stream().allMatch(w -> ways.get(w).outcome != 0);
            if (gone.size() == few && known && (way == NONE || gone.contains(way)) && explainedWithout(gone)) {
                sum++;
            }
        }
        return sum;
    }

    // ---- what ways can see

    int trace(int set) {
        if (!isSet(set)) {
            return NONE;
        }
        int bits = 0;
        for (int w = 0; w < ways.size(); w++) {
            bits |= (ways.get(w).links & set) != 0 ? 1 << w : 0;
        }
        return bits;
    }

    private int seen() {
        int bits = 0;
        for (Way w : ways) {
            bits |= w.links;
        }
        return bits;
    }

    int level() {
        int most = Integer.bitCount(seen());
        for (int n = most; n > 0; n--) {
            if (isLevel(n)) {
                return n;
            }
        }
        return 0;
    }

    private boolean isLevel(int n) {
        Set<Integer> traces = new HashSet<>();
        for (int set = 0; set < 1 << links.size(); set++) {
            if ((set & ~seen()) == 0 && Integer.bitCount(set) <= n && !traces.add(trace(set))) {
                return false;
            }
        }
        return true;
    }

    int twin(int link) {
        if (!isLink(link)) {
            return NONE;
        }
        for (int other = 0; other < links.size(); other++) {
            if (other != link && trace(1 << other) == trace(1 << link)) {
                return other;
            }
        }
        return -2;
    }

    int choice(int what, int i) {
        if (what != 0 && what != 1) {
            return NONE;
        }
        for (List<Integer> some : setsOfWays()) {
            if (isChoice(some, what)) {
                return ith(some, i);
            }
        }
        throw new IllegalStateException();
    }

    private boolean isChoice(List<Integer> some, int what) {
        int bits = some.stream().mapToInt(w -> 1 << w).sum();
        for (int a : members(seen())) {
            int traceA = trace(1 << a);
            if ((traceA & bits) == 0) {
                return false;
            }
            for (int b : members(seen())) {
                int traceB = trace(1 << b);
                if (what == 1 && traceA != traceB && (traceA & bits) == (traceB & bits)) {
                    return false;
                }
            }
        }
        return true;
    }

    // ---- what to try

    int after(int way, boolean good) {
        if (!isWay(way)) {
            return NONE;
        }
        int[] outcomes = outcomes();
        outcomes[way] = good ? 1 : 2;
        return explaining(outcomes).size();
    }

    int next() {
        int best = -2;
        int least = 0;
        for (int w = 0; w < ways.size(); w++) {
            if (ways.get(w).outcome == 0) {
                int left = Math.max(after(w, true), after(w, false));
                if (best == -2 || left < least) {
                    best = w;
                    least = left;
                }
            }
        }
        return best;
    }

    int tries(boolean first) {
        List<Integer> singles = new ArrayList<>();
        for (int set : explaining(outcomes())) {
            if (Integer.bitCount(set) <= 1) {
                singles.add(set);
            }
        }
        List<Integer> open = new ArrayList<>();
        for (int w = 0; w < ways.size(); w++) {
            if (ways.get(w).outcome == 0) {
                open.add(w);
            }
        }
        Map<List<Integer>, Integer> memo = new HashMap<>();
        int most = triesFor(singles, open, memo);
        if (!first) {
            return most;
        }
        for (int w : open) {
            if (most > 0 && 1 + worst(singles, w, open, memo) == most) {
                return w;
            }
        }
        return -2;
    }

    private int triesFor(List<Integer> left, List<Integer> open, Map<List<Integer>, Integer> memo) {
        int mask = open.stream().mapToInt(w -> 1 << w).sum();
        if (left.stream().map(s -> trace(s) & mask).distinct().count() <= 1) {
            return 0;
        }
        if (memo.containsKey(left)) {
            return memo.get(left);
        }
        int least = 1000;
        for (int w : open) {
            long bad = left.stream().filter(s -> has(trace(s), w)).count();
            if (bad > 0 && bad < left.size()) {
                least = Math.min(least, 1 + worst(left, w, open, memo));
            }
        }
        memo.put(left, least);
        return least;
    }

    private int worst(List<Integer> left, int way, List<Integer> open, Map<List<Integer>, Integer> memo) {
        List<Integer> bad = left.stream().filter(s -> has(trace(s), way)).toList();
        List<Integer> good = left.stream().filter(s -> !has(trace(s), way)).toList();
        if (bad.isEmpty() || good.isEmpty()) {
            return 999;
        }
        return Math.max(triesFor(bad, open, memo), triesFor(good, open, memo));
    }

    // ---- paths and plans

    private List<List<Integer>> paths(int from, int to) {
        List<List<Integer>> all = new ArrayList<>();
        grow(List.of(from), to, all);
        all.sort(Oracle::compareRows);
        return all;
    }

    private void grow(List<Integer> row, int to, List<List<Integer>> all) {
        int last = row.get(row.size() - 1);
        if (last == to) {
            all.add(row);
            return;
        }
        for (int p = posts - 1; p >= 0; p--) {
            if (!row.contains(p) && linkOf(last, p) != NONE) {
                List<Integer> longer = new ArrayList<>(row);
                longer.add(p);
                grow(longer, to, all);
            }
        }
    }

    int path(int from, int to, int i, int k) {
        if (!areTwoPosts(from, to)) {
            return NONE;
        }
        List<List<Integer>> all = paths(from, to);
        if (i == NONE) {
            return all.size();
        }
        return i >= 0 && i < all.size() ? ith(all.get(i), k) : NONE;
    }

    int fresh(int from, int to) {
        if (!areTwoPosts(from, to)) {
            return NONE;
        }
        int best = -2;
        int least = 0;
        List<List<Integer>> all = paths(from, to);
        List<Integer> explaining = explaining(outcomes());
        for (int i = 0; i < all.size(); i++) {
            int along = linksOf(all.get(i));
            int good = (int) explaining.stream().filter(s -> (s & along) == 0).count();
            int left = Math.max(good, explaining.size() - good);
            if (best == -2 || left < least) {
                best = i;
                least = left;
            }
        }
        return best;
    }

    private List<Integer> planPaths() {
        List<Integer> all = new ArrayList<>();
        for (int a : eyes) {
            for (int b : eyes) {
                if (a < b) {
                    for (List<Integer> row : paths(a, b)) {
                        if (row.size() <= 5) {
                            all.add(linksOf(row));
                        }
                    }
                }
            }
        }
        return all;
    }

    int plan(int what, int i) {
        if (what != 0 && what != 1) {
            return NONE;
        }
        List<Integer> all = planPaths();
        int n = all.size();
        List<int[]> apart = what == 0 ? List.of() : apart(all);
        if (isPlan(List.of(), all, apart)) {
            return ith(List.of(), i);
        }
        for (int a = 0; a < n; a++) {
            if (isPlan(List.of(a), all, apart)) {
                return ith(List.of(a), i);
            }
        }
        for (int a = 0; a < n; a++) {
            for (int b = a + 1; b < n; b++) {
                if (isPlan(List.of(a, b), all, apart)) {
                    return ith(List.of(a, b), i);
                }
            }
        }
        for (int a = 0; a < n; a++) {
            for (int b = a + 1; b < n; b++) {
                for (int c = b + 1; c < n; c++) {
                    if (isPlan(List.of(a, b, c), all, apart)) {
                        return ith(List.of(a, b, c), i);
                    }
                }
            }
        }
        return -2;
    }

    private List<int[]> apart(List<Integer> all) {
        List<int[]> pairs = new ArrayList<>();
        for (int a = 0; a < links.size(); a++) {
            for (int b = a + 1; b < links.size(); b++) {
                for (int along : all) {
                    if (has(along, a) != has(along, b)) {
                        pairs.add(new int[] {a, b});
                        break;
                    }
                }
            }
        }
        return pairs;
    }

    private static boolean isPlan(List<Integer> some, List<Integer> all, List<int[]> apart) {
        int of = 0;
        for (int along : all) {
            of |= along;
        }
        int got = 0;
        for (int i : some) {
            got |= all.get(i);
        }
        if (got != of) {
            return false;
        }
        for (int[] pair : apart) {
            if (has(of, pair[0]) && has(of, pair[1])
                && some.stream().noneMatch(i -> has(all.get(i), pair[0]) != has(all.get(i), pair[1]))) {
                return false;
            }
        }
        return true;
    }

    // ---- guesses, what is lost, counts

    int guess(int n, int what) {
        if (n < 1 || n > 10 || what < 0 || what > 3) {
            return NONE;
        }
        BigInteger x = BigInteger.valueOf(seed);
        int sum = 0;
        for (int g = 0; g < n; g++) {
            int drawn = 0;
            for (int l = 0; l < links.size(); l++) {
                x = x.multiply(BigInteger.valueOf(1103515245)).add(BigInteger.valueOf(12345)).mod(BigInteger.ONE.shiftLeft(31));
                if (x.shiftRight(16).mod(BigInteger.TEN).intValue() < links.get(l)[2]) {
                    drawn |= 1 << l;
                }
            }
            int[] outcomes = new int[ways.size()];
            for (int w = 0; w < ways.size(); w++) {
                outcomes[w] = (ways.get(w).links & drawn) != 0 ? 2 : 1;
            }
            List<Integer> lean = leanSets(outcomes);
            sum += switch (what) {
                case 0 -> likeliest(outcomes) == drawn ? 1 : 0;
                case 1 -> lean.get(0) == drawn ? 1 : 0;
                case 2 -> lean.contains(drawn) ? 1 : 0;
                default -> Integer.bitCount(lean.stream().reduce((1 << links.size()) - 1, (a, b) -> a & b));
            };
        }
        return sum;
    }

    private int[] parts(int failed) {
        int[] part = new int[posts];
        for (int p = 0; p < posts; p++) {
            part[p] = p;
        }
        for (int l = 0; l < links.size(); l++) {
            if (!has(failed, l)) {
                int a = part[links.get(l)[0]];
                int b = part[links.get(l)[1]];
                for (int p = 0; p < posts; p++) {
                    part[p] = part[p] == b ? a : part[p];
                }
            }
        }
        return part;
    }

    int lost(int post, int set) {
        if (post < 0 || post >= posts || !isSet(set)) {
            return NONE;
        }
        int[] part = parts(set);
        int bits = 0;
        for (int p = 0; p < posts; p++) {
            bits |= part[p] == part[post] ? 1 << p : 0;
        }
        return bits;
    }

    int split(int set) {
        return isSet(set) ? (int) Arrays.stream(parts(set)).distinct().count() : NONE;
    }

    int count(int what) {
        switch (what) {
            case 0: return posts;
            case 1: return links.size();
            case 2: return ways.size();
            case 3: return linksWhere(3);
            case 4: return linksWhere(4);
            case 5: return linksWhere(5);
            case 6: return linksWhere(6);
            case 7: return waysWith(1);
            case 8: return waysWith(2);
            case 9: return seen();
            case 10: return tape.length();
            case 11: return past.size();
            case 12: return slots.size();
            case 13: return leanSets(outcomes()).isEmpty() ? -2 : Integer.bitCount(leanSets(outcomes()).get(0));
            case 14: return eyes.stream().mapToInt(p -> 1 << p).sum();
            case 15: return price;
            case 16: return seed;
            case 17: return planPaths().size();
            default: return NONE;
        }
    }

    private int linksWhere(int what) {
        int bits = 0;
        for (int l = 0; l < links.size(); l++) {
            boolean is = what == 3 ? isCleared(l) : state(l) == what - 3;
            bits |= is ? 1 << l : 0;
        }
        return bits;
    }

    private int waysWith(int outcome) {
        int bits = 0;
        for (int w = 0; w < ways.size(); w++) {
            bits |= ways.get(w).outcome == outcome ? 1 << w : 0;
        }
        return bits;
    }
}
