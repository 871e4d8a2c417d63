import java.util.ArrayList;
import java.util.HashSet;
import java.util.List;
import java.util.Random;
import java.util.Set;

/** Random texts: sound ones, and sound ones with something broken. */
final class Texts {
    private static final String[] NAMES = {"a", "b", "c", "d", "e", "f", "g", "h", "posts", "linkway", "abcdefgh", "zz"};
    private static final String[] STRANGE = {"post", "link", "way", "good", "bad", "eye", "price", "seed", ";", ";", "a", "b", "w", "wa",
        "0", "5", "9", "10", "99", "100", "9999", "12345", "00001", "0001", "abcdefghi", "A", "-", "\u00e9", "a1", "1a", "\u0000", "posta"};

    private final Random random;

    Texts(Random random) {
        this.random = random;
    }

    String sound(int mostPosts, int mostLinks, int mostWays) {
        return join(lines(mostPosts, mostLinks, mostWays), 0);
    }

    String broken(int mostPosts, int mostLinks, int mostWays) {
        List<String> tokens = lines(mostPosts, mostLinks, mostWays);
        int times = 1 + random.nextInt(3);
        for (int i = 0; i < times; i++) {
            breakOne(tokens);
        }
        return join(tokens, random.nextInt(4) == 0 ? 40 : 0);
    }

    private void breakOne(List<String> tokens) {
        int at = tokens.isEmpty() ? 0 : random.nextInt(tokens.size());
        switch (tokens.isEmpty() ? 1 : random.nextInt(6)) {
            case 0 -> tokens.remove(at);
            case 1 -> tokens.add(at, STRANGE[random.nextInt(STRANGE.length)]);
            case 2 -> tokens.set(at, STRANGE[random.nextInt(STRANGE.length)]);
            case 3 -> tokens.set(at, tokens.get(random.nextInt(tokens.size())));
            case 4 -> doubleLine(tokens, at);
            default -> {
                while (tokens.size() > at) {
                    tokens.remove(tokens.size() - 1);
                }
            }
        }
    }

    private static void doubleLine(List<String> tokens, int at) {
        int start = at;
        while (start > 0 && !tokens.get(start - 1).equals(";")) {
            start--;
        }
        int end = at;
        while (end < tokens.size() - 1 && !tokens.get(end).equals(";")) {
            end++;
        }
        tokens.addAll(start, new ArrayList<>(tokens.subList(start, end + 1)));
    }

    private List<String> lines(int mostPosts, int mostLinks, int mostWays) {
        List<List<String>> lines = new ArrayList<>();
        int posts = random.nextInt(4) == 0 ? random.nextInt(mostPosts + 1) : mostPosts - random.nextInt(2);
        for (int p = 0; p < posts; p++) {
            lines.add(List.of("post", NAMES[p], ";"));
        }
        boolean[][] joined = new boolean[posts][posts];
        for (int tries = 0, made = 0; tries < 60 && made < mostLinks && posts > 1; tries++) {
            int a = random.nextInt(posts);
            int b = random.nextInt(posts);
            if (a != b && !joined[a][b]) {
                joined[a][b] = true;
                joined[b][a] = true;
                made++;
                lines.add(List.of("link", NAMES[a], NAMES[b], (random.nextInt(9) == 0 ? "0" : "") + (1 + random.nextInt(9)), ";"));
            }
        }
        int count = random.nextInt(3) == 0 ? random.nextInt(mostWays + 1) : mostWays - random.nextInt(2);
        int ways = 0;
        // short ways tell more links apart: without them a level above 1 is hardly ever met
        int longest = random.nextInt(3) == 0 ? 2 : 7;
        Set<Set<Integer>> failed = drawnLinks(joined);
        List<Boolean> isBad = new ArrayList<>();
        for (int tries = 0; tries < 40 && ways < count && posts > 1; tries++) {
            List<Integer> row = walk(joined, 2 + random.nextInt(longest));
            if (row.size() >= 2) {
                isBad.add(hasOneOf(row, failed));
                List<String> line = new ArrayList<>(List.of("way", "w" + (char) ('a' + ways)));
                row.forEach(p -> line.add(NAMES[p]));
                line.add(";");
                lines.add(line);
                ways++;
            }
        }
        int told = random.nextInt(2 * ways + 2);
        int lies = random.nextInt(3) * 4;
        for (int i = 0; i < told && ways > 0; i++) {
            int way = random.nextInt(ways);
            boolean isLie = random.nextInt(16) < lies;
            lines.add(List.of(isBad.get(way) == isLie ? "good" : "bad", "w" + (char) ('a' + way), ";"));
        }
        addRest(lines, posts);
        return mixed(lines);
    }

    /** Outcomes by these links agree with one another; lies among them make some that do not. */
    private Set<Set<Integer>> drawnLinks(boolean[][] joined) {
        Set<Set<Integer>> drawn = new HashSet<>();
        int rarity = 2 + random.nextInt(4);
        for (int a = 0; a < joined.length; a++) {
            for (int b = 0; b < a; b++) {
                if (joined[a][b] && random.nextInt(rarity) == 0) {
                    drawn.add(Set.of(a, b));
                }
            }
        }
        return drawn;
    }

    private static boolean hasOneOf(List<Integer> row, Set<Set<Integer>> links) {
        for (int i = 1; i < row.size(); i++) {
            if (links.contains(Set.of(row.get(i - 1), row.get(i)))) {
                return true;
            }
        }
        return false;
    }

    private List<Integer> walk(boolean[][] joined, int length) {
        List<Integer> row = new ArrayList<>(List.of(random.nextInt(joined.length)));
        while (row.size() < length) {
            int last = row.get(row.size() - 1);
            List<Integer> free = new ArrayList<>();
            for (int p = 0; p < joined.length; p++) {
                if (joined[last][p] && !row.contains(p)) {
                    free.add(p);
                }
            }
            if (free.isEmpty()) {
                return row;
            }
            row.add(free.get(random.nextInt(free.size())));
        }
        return row;
    }

    private void addRest(List<List<String>> lines, int posts) {
        int eyes = random.nextInt(5);
        for (int i = 0; i < eyes && posts > 0; i++) {
            lines.add(List.of("eye", NAMES[random.nextInt(posts)], ";"));
        }
        for (int i = random.nextInt(3); i > 0; i--) {
            lines.add(List.of("price", "" + (1 + random.nextInt(random.nextBoolean() ? 5 : 99)), ";"));
        }
        for (int i = random.nextInt(3); i > 0; i--) {
            lines.add(List.of("seed", "" + random.nextInt(10000), ";"));
        }
    }

    /** The order of the lines is free: what they name may stand behind them. */
    private List<String> mixed(List<List<String>> lines) {
        if (random.nextInt(3) > 0) {
            java.util.Collections.shuffle(lines, random);
        }
        List<String> tokens = new ArrayList<>();
        lines.forEach(tokens::addAll);
        return tokens;
    }

    /** Blanks of all four kinds, only where needed or where they please; now and then a needed one is left out. */
    private String join(List<String> tokens, int leftOut) {
        String blanks = "\t\n\r ";
        boolean isDense = random.nextInt(3) > 0;
        StringBuilder text = new StringBuilder();
        String ahead = ";";
        for (String token : tokens) {
            boolean isNeeded = isWordy(ahead, ahead.length() - 1) && isWordy(token, 0);
            if (isNeeded && random.nextInt(1000) >= leftOut || !isDense && random.nextInt(3) == 0) {
                text.append(blanks.charAt(random.nextInt(4)));
            }
            text.append(token);
            ahead = token;
        }
        return text.length() > 1990 ? text.substring(0, 1990) : text.toString();
    }

    private static boolean isWordy(String token, int i) {
        return Character.isLetterOrDigit(token.charAt(i));
    }
}
