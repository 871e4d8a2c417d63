/** The edges of a text: each test bears the words of the document that it holds the class to. */
final class TextEdgesTest {
    private static final int NONE = FaultWays.NONE;
    private static final int SYNTAX = 1;
    private static final int ROOM = 2;
    private static final int TWICE = 3;
    private static final int NAME = 4;
    private static final int WRONG = 5;

    private static final String[] WORDS = {"post", "link", "way", "good", "bad", "eye", "price", "seed"};
    private static final String LETTERS = "abcdefgh";
    /** Eight posts in a row: 56 bytes, and seven links: 77 bytes more. */
    private static final String EIGHT = posts(8);
    private static final String ROW = EIGHT + "link a b 1;link b c 1;link c d 1;link d e 1;link e f 1;link f g 1;link g h 1;";
    private static final String TWO = "post a;post b;link a b 1;";

    private static final Checks CHECKS = new Checks();

    public static void main(String[] args) {
        wholeTape();
        blanks();
        signsOfNames();
        signsOfInts();
        noBlanks();
        lengthsOfNames();
        unlikeNames();
        words();
        lengthsOfInts();
        longerOnes();
        grammar();
        emptyText();
        numbering();
        posts();
        links();
        ways();
        rows();
        eyes();
        risks();
        prices();
        seeds();
        outcomes();
        firstByPlace();
        textsEnd();
        ofOnePlace();
        tokens();
        roomAtFirstWord();
        roomInRow();
        syntaxAndRoomFirst();
        ownNamesTwice();
        linksTwice();
        names();
        namesToldTwice();
        wrongInts();
        wrongRows();
        wrongRowsAndLinks();
        CHECKS.end();
    }

    private static void fault(String text, int fault, int place) {
        CHECKS.fault(text, fault, place);
    }

    private static void sound(String text) {
        CHECKS.sound(text);
    }

    private static void dueCount(String text, int what, int want) {
        CHECKS.due("count(" + what + ") of " + text, Checks.of(text).count(what), want);
    }

    private static String posts(int n) {
        StringBuilder text = new StringBuilder();
        for (int i = 0; i < n; i++) {
            text.append("post ").append((char) ('a' + i)).append(';');
        }
        return text.toString();
    }

    /** Links of a and of b with all others, in order: 13 of eight posts, then gh and so on. */
    private static String links(int n) {
        StringBuilder text = new StringBuilder();
        int made = 0;
        for (int a = 0; a < 8; a++) {
            for (int b = a + 1; b < 8 && made < n; b++) {
                text.append("link ").append(LETTERS.charAt(b)).append(' ').append(LETTERS.charAt(a)).append(" 1;");
                made++;
            }
        }
        return text.toString();
    }

    private static String ways(int n) {
        StringBuilder text = new StringBuilder();
        for (int i = 0; i < n; i++) {
            text.append("way ").append((char) ('k' + i)).append(" a b;");
        }
        return text.toString();
    }

    private static String filled(String text, int length) {
        return text + " ".repeat(length - text.length());
    }

    private static boolean isBlank(int sign) {
        return sign == 9 || sign == 10 || sign == 13 || sign == 32;
    }

    private static boolean isLetter(int sign) {
        return sign >= 97 && sign <= 122;
    }

    private static boolean isDigit(int sign) {
        return sign >= 48 && sign <= 57;
    }

    // ---- tokens

    private static void wholeTape() {
        CHECKS.promise("A TEXT has 2,000 bytes at most");
        sound(filled("post a;", 1999));
        sound(filled("post a;", 2000));
        sound(" ".repeat(1993) + "post a;");
        fault(filled("post a", 1999), SYNTAX, 1999);
        fault(filled("post a", 2000), SYNTAX, 2000);
        fault(filled("post a;", 1999) + "?", SYNTAX, 1999);
        fault(filled("post a;", 1998) + "?", SYNTAX, 1998);
        fault(" ".repeat(1990) + "seed 10000", SYNTAX, 1995);
        fault("q".repeat(2000), SYNTAX, 0);
        dueCount(" ".repeat(1990) + "seed 9999;", 16, 9999);
        FaultWays x = new FaultWays();
        Checks.type(x, filled("seed 7;", 2000));
        CHECKS.due("a byte more", x.feed(0x3f3f3f3f, 0x3f3f3f3f, 0x3f3f3f3f, 0x3f3f3f3f, 0x3f3f3f3f), NONE);
        CHECKS.due("is not in it", x.read(), 0);
        CHECKS.due("seed", x.count(16), 7);
    }

    private static void blanks() {
        CHECKS.promise("with blanks (9, 10, 13, 32) between");
        for (int b = 0; b < 256; b++) {
            String text = "post" + (char) b + "a;";
            fault(text, isBlank(b) ? 0 : SYNTAX, isBlank(b) ? NONE : isLetter(b) ? 0 : 4);
            String line = "seed 1;" + (char) b + "seed 2;";
            fault(line, isBlank(b) ? 0 : SYNTAX, isBlank(b) ? NONE : 7);
        }
        sound("\t\n\r post\t\t\na\r\r ;\n");
    }

    private static void signsOfNames() {
        CHECKS.promise("NAMES (letters a .. z");
        for (int b = 0; b < 256; b++) {
            boolean isIn = isLetter(b);
            fault("post " + (char) b + ";", isIn ? 0 : SYNTAX, isIn ? NONE : isBlank(b) ? 6 : 5);
            boolean isFine = isIn || isBlank(b);
            fault("post a" + (char) b + ";", isFine ? 0 : SYNTAX, isFine ? NONE : b == ';' ? 7 : 6);
        }
    }

    private static void signsOfInts() {
        CHECKS.promise("INTS (1 to 4 digits), the SIGN ;");
        for (int b = 0; b < 256; b++) {
            boolean isIn = isDigit(b);
            fault("seed " + (char) b + ";", isIn ? 0 : SYNTAX, isIn ? NONE : isBlank(b) ? 6 : 5);
            boolean isFine = isIn || isBlank(b);
            fault("seed 1" + (char) b + ";", isFine ? 0 : SYNTAX, isFine ? NONE : b == ';' ? 7 : 6);
            fault("seed 1" + (char) b, b == ';' ? 0 : SYNTAX, b == ';' ? NONE : isFine ? 7 : 6);
            if (isIn) {
                dueCount("seed " + (char) b + ";", 16, b - 48);
            }
        }
    }

    private static void noBlanks() {
        CHECKS.promise("with blanks between or not");
        sound("post a;post b;link a b9;price1;seed0;way w a b;bad w;eye a;");
        dueCount("price7;seed12;", 15, 7);
        dueCount("price7;seed12;", 16, 12);
        fault("post7;", SYNTAX, 4);
        fault("post a7;", SYNTAX, 6);
        fault("price7seed", SYNTAX, 6);
        fault("posta;", SYNTAX, 0);
        fault("postpost a;", SYNTAX, 0);
        fault("7post a;", SYNTAX, 0);
    }

    private static void lengthsOfNames() {
        CHECKS.promise("NAMES (letters a .. z, 8 at most");
        for (int n = 1; n <= 18; n++) {
            String name = "q".repeat(n);
            fault("post " + name + ";", n <= 8 ? 0 : SYNTAX, n <= 8 ? NONE : 5);
            String way = TWO + "way " + name + " a b;good " + name + ";";
            fault(way, n <= 8 ? 0 : SYNTAX, n <= 8 ? NONE : 29);
        }
        fault("post abcdefghi;", SYNTAX, 5);
        fault("link abcdefgh abcdefghi 1;", SYNTAX, 14);
        fault("way abcdefgh abcdefgh abcdefghi;", SYNTAX, 22);
        fault("way w a b abcdefghi;", SYNTAX, 10);
        fault("bad abcdefghi;", SYNTAX, 4);
        fault("eye abcdefghi;", SYNTAX, 4);
    }

    private static void unlikeNames() {
        CHECKS.promise("NAMES of one letter to eight are told apart");
        String lengths = "post z;post zz;post zzz;post zzzz;post zzzzz;post zzzzzz;post zzzzzzz;post zzzzzzzz;";
        sound(lengths);
        dueCount(lengths + "eye z;", 14, 1);
        dueCount(lengths + "eye zzzzzzz;", 14, 64);
        dueCount(lengths + "eye zzzzzzzz;", 14, 128);
        for (char letter = 'a'; letter <= 'z'; letter++) {
            String all = lengths.replace('z', letter);
            sound(all);
            dueCount(all + "eye " + letter + letter + ";", 14, 2);
            sound("post " + letter + ";post a" + letter + ";post " + letter + "b;post z" + letter + ";post " + letter + "y;");
        }
        String near = "post abcdefgh;post abcdefgi;post bbcdefgh;post abcdffgh;";
        sound(near);
        dueCount(near + "eye abcdefgi;", 14, 2);
        dueCount(near + "eye bbcdefgh;", 14, 4);
        dueCount(near + "eye abcdffgh;", 14, 8);
        fault(near + "post abcdefgh;", TWICE, 61);
    }

    private static void words() {
        CHECKS.promise("none of the words in quotes");
        for (String word : WORDS) {
            fault("post " + word + ";", SYNTAX, 5);
            fault("link " + word + " a 1;", SYNTAX, 5);
            fault("link a " + word + " 1;", SYNTAX, 7);
            fault("way " + word + " a b;", SYNTAX, 4);
            fault("way w " + word + " b;", SYNTAX, 6);
            fault("way w a " + word + ";", SYNTAX, 8);
            fault("way w a b " + word + ";", SYNTAX, 10);
            fault("good " + word + ";", SYNTAX, 5);
            fault("bad " + word + ";", SYNTAX, 4);
            fault("eye " + word + ";", SYNTAX, 4);
            sound("post " + word + "s;");
            sound("post " + word.substring(0, word.length() - 1) + ";");
            sound("post " + word.substring(1) + ";");
            sound("post s" + word + ";");
        }
    }

    private static void lengthsOfInts() {
        CHECKS.promise("INTS (1 to 4 digits)");
        for (int n = 1; n <= 10; n++) {
            String digits = "0".repeat(n - 1) + "7";
            boolean isFine = n <= 4;
            fault("seed " + digits + ";", isFine ? 0 : SYNTAX, isFine ? NONE : 5);
            fault("price " + digits + ";", isFine ? 0 : SYNTAX, isFine ? NONE : 6);
            fault("post a;post b;link a b " + digits + ";", isFine ? 0 : SYNTAX, isFine ? NONE : 23);
        }
        fault("seed ;", SYNTAX, 5);
        fault("seed 10000;", SYNTAX, 5);
        fault("price 00099;", SYNTAX, 6);
        dueCount("seed 0007;", 16, 7);
    }

    private static void longerOnes() {
        CHECKS.promise("A longer one, all else, is no TOKEN");
        fault("postpostp", SYNTAX, 0);
        fault("way w aaaaaaaabbbbbbbb;", SYNTAX, 6);
        fault("seed 12345678;", SYNTAX, 5);
        fault("post a; abcdefghi", SYNTAX, 8);
        fault("post a; 12345", SYNTAX, 8);
        fault("post a:", SYNTAX, 6);
        fault("post a-b;", SYNTAX, 6);
        fault("post a_b;", SYNTAX, 6);
        fault("POST a;", SYNTAX, 0);
        fault("post aB;", SYNTAX, 6);
        fault("seed -1;", SYNTAX, 5);
        fault("seed +1;", SYNTAX, 5);
        fault("seed 1.5;", SYNTAX, 6);
        fault("post a;// b", SYNTAX, 7);
    }

    // ---- lines

    /** Each beginning with all that can follow it: n a NAME, i an INT, $ the text's end. */
    private static final String[][] GOES_ON = {
        {"", "post link way good bad eye price seed $"}, {"post a;", "post link way good bad eye price seed $"},
        {"post", "n"}, {"post a", ";"},
        {"link", "n"}, {"link a", "n"}, {"link a b", "i"}, {"link a b 1", ";"},
        {"way", "n"}, {"way w", "n"}, {"way w a", "n"}, {"way w a b", "n ;"}, {"way w a b c", "n ;"},
        {"way w a b c d e f g", "n ;"}, {"way w a b c d e f g h", "n ;"},
        {"good", "n"}, {"good w", ";"}, {"bad", "n"}, {"bad w", ";"}, {"eye", "n"}, {"eye a", ";"},
        {"price", "i"}, {"price 1", ";"}, {"seed", "i"}, {"seed 1", ";"}};

    private static void grammar() {
        CHECKS.promise("1 SYNTAX: a TOKEN, or what is none, with which no text goes on");
        for (String[] row : GOES_ON) {
            String can = " " + row[1] + " ";
            for (String word : WORDS) {
                goesOn(row[0], word, can.contains(" " + word + " "));
            }
            goesOn(row[0], "n", can.contains(" n "));
            goesOn(row[0], "7", can.contains(" i "));
            goesOn(row[0], ";", can.contains(" ; "));
            goesOn(row[0], "", can.contains("$"));
            goesOn(row[0], "?", false);
            goesOn(row[0], "00000", false);
            goesOn(row[0], "abcdefghi", false);
        }
    }

    private static void goesOn(String ahead, String token, boolean can) {
        FaultWays x = new FaultWays();
        Checks.type(x, ahead + " " + token);
        int fault = x.read();
        boolean isSyntaxThere = fault == SYNTAX && x.place() == ahead.length() + 1;
        CHECKS.due("no text goes on: " + ahead + " " + token, isSyntaxThere, !can);
    }

    private static void emptyText() {
        CHECKS.promise("text: {TELL}: a text without any line");
        sound("");
        sound(" ");
        sound(" ".repeat(2000));
        fault(";", SYNTAX, 0);
        FaultWays x = Checks.of(TWO + "way w a b;price 3;seed 4;eye a;");
        CHECKS.due("read", x.read(), 0);
        for (int what = 0; what <= 17; what++) {
            CHECKS.due("count(" + what + ")", x.count(what), what == 15 ? 20 : 0);
        }
    }

    private static void numbering() {
        CHECKS.promise("numbered from 0 on as they stand");
        FaultWays x = Checks.of("eye c;way v b c;link c b 3;post c;good w;way w c b a;post a;link b a 8;post b;");
        CHECKS.due("eye c", x.count(14), 1);
        CHECKS.dueRow("link bc", what -> x.link(0, what), 0, 2, 3, 3, 0);
        CHECKS.dueRow("link ab", what -> x.link(1, what), 1, 2, 8, 2, 0);
        CHECKS.dueRow("way v", i -> x.post(0, i), 2, 0);
        CHECKS.dueRow("way w", i -> x.post(1, i), 0, 2, 1);
        CHECKS.due("outcome of v", x.way(0, 0), 0);
        CHECKS.due("outcome of w", x.way(1, 0), 1);
    }

    private static void posts() {
        CHECKS.promise("POSTS, 8 at most");
        for (int n = 0; n <= 8; n++) {
            sound(posts(n));
            dueCount(posts(n), 0, n);
        }
        fault(posts(9), ROOM, 56);
        fault(posts(8) + " post i;", ROOM, 57);
        fault(posts(12), ROOM, 56);
    }

    private static void links() {
        CHECKS.promise("LINKS, 12 at most");
        for (int n = 0; n <= 12; n++) {
            sound(EIGHT + links(n));
            dueCount(EIGHT + links(n), 1, n);
        }
        fault(EIGHT + links(13), ROOM, 56 + 12 * 11);
        fault(links(12) + " " + links(1) + EIGHT, ROOM, 12 * 11 + 1);
    }

    private static void ways() {
        CHECKS.promise("WAYS, 12 at most");
        for (int n = 0; n <= 12; n++) {
            sound(TWO + ways(n));
            dueCount(TWO + ways(n), 2, n);
        }
        fault(TWO + ways(13), ROOM, 25 + 12 * 10);
        fault(ways(13) + TWO, ROOM, 12 * 10);
    }

    private static void rows() {
        CHECKS.promise("behind the own NAME a row of 2 to 8 POSTS");
        fault(ROW + "way w;", SYNTAX, ROW.length() + 5);
        fault(ROW + "way w a;", SYNTAX, ROW.length() + 7);
        StringBuilder row = new StringBuilder(" a");
        for (int n = 2; n <= 8; n++) {
            row.append(' ').append(LETTERS.charAt(n - 1));
            String text = ROW + "way w" + row + ";";
            sound(text);
            CHECKS.due("posts of " + text, Checks.of(text).way(0, 2), n);
            CHECKS.due("the last of " + text, Checks.of(text).post(0, n - 1), n - 1);
            CHECKS.due("links of " + text, Checks.of(text).way(0, 1), (1 << n - 1) - 1);
        }
        fault(ROW + "way w" + row + " a;", ROOM, ROW.length() + 22);
    }

    private static void eyes() {
        CHECKS.promise("EYES: the POSTS that lines of 'eye' name (4 lines at most)");
        sound(EIGHT + "eye a;eye c;eye h;");
        dueCount(EIGHT + "eye a;eye c;eye h;", 14, 1 + 4 + 128);
        dueCount(EIGHT + "eye h;eye c;eye b;eye a;", 14, 128 + 4 + 2 + 1);
        dueCount(EIGHT + "eye d;eye d;eye d;eye d;", 14, 8);
        fault(EIGHT + "eye h;eye c;eye b;eye a;eye d;", ROOM, 56 + 24);
        fault(EIGHT + "eye d;eye d;eye d;eye d; eye d;", ROOM, 56 + 25);
        fault("eye d;eye d;eye d;eye d;eye d;" + EIGHT, ROOM, 24);
        dueCount(EIGHT, 14, 0);
    }

    private static void risks() {
        CHECKS.promise("RISK (1 .. 9)");
        for (int risk = 0; risk <= 11; risk++) {
            boolean isFine = risk >= 1 && risk <= 9;
            fault("post a;post b;link a b " + risk + ";", isFine ? 0 : WRONG, isFine ? NONE : 23);
            if (isFine) {
                CHECKS.due("risk", Checks.of("post a;post b;link a b " + risk + ";").link(0, 2), risk);
            }
        }
        sound("post a;post b;link a b 0001;");
        sound("post a;post b;link a b 0009;");
        fault("post a;post b;link a b 0000;", WRONG, 23);
        fault("post a;post b;link a b 0010;", WRONG, 23);
        fault("post a;post b;link a b 9999;", WRONG, 23);
    }

    private static void prices() {
        CHECKS.promise("PRICE 1 .. 99 (20)");
        dueCount("", 15, 20);
        dueCount("price 1;", 15, 1);
        dueCount("price 99;", 15, 99);
        dueCount("price 0099;", 15, 99);
        fault("price 0;", WRONG, 6);
        fault("price 0000;", WRONG, 6);
        fault("price 100;", WRONG, 6);
        fault("price 9999;", WRONG, 6);
        CHECKS.promise("PRICE: the last ones");
        dueCount("price 99;post a;price 1;", 15, 1);
        fault("price 0;price 1;", WRONG, 6);
        fault("price 1;price 0;", WRONG, 14);
        FaultWays x = Checks.of("price 7;");
        Checks.type(x, "seed 1;");
        x.read();
        CHECKS.due("none told: 20 again", x.count(15), 20);
    }

    private static void seeds() {
        CHECKS.promise("SEED 0 .. 9999 (0)");
        dueCount("", 16, 0);
        dueCount("seed 0;", 16, 0);
        dueCount("seed 1;", 16, 1);
        dueCount("seed 9999;", 16, 9999);
        CHECKS.promise("SEED: the last ones");
        dueCount("seed 9999;seed 5;post a;seed 0;", 16, 0);
        FaultWays x = Checks.of("seed 7;");
        Checks.type(x, "price 1;");
        x.read();
        CHECKS.due("none told: 0 again", x.count(16), 0);
    }

    private static void outcomes() {
        CHECKS.promise("as the last line of 'good', 'bad' tells that names it; without one 0");
        String two = TWO + "way v a b;way w b a;";
        CHECKS.due("without one", Checks.of(two).way(0, 0), 0);
        CHECKS.due("good", Checks.of(two + "good v;").way(0, 0), 1);
        CHECKS.due("the other", Checks.of(two + "good v;").way(1, 0), 0);
        CHECKS.due("bad", Checks.of(two + "bad v;").way(0, 0), 2);
        CHECKS.due("the last", Checks.of(two + "bad v;good v;bad w;").way(0, 0), 1);
        CHECKS.due("the last", Checks.of(two + "good v;bad v;good w;").way(0, 0), 2);
        CHECKS.due("the last, ahead of the way", Checks.of("good v;bad v;" + two).way(0, 0), 2);
        CHECKS.due("the last, on both sides", Checks.of("good v;" + two + "bad v;").way(0, 0), 2);
        CHECKS.due("twice alike", Checks.of("good v;good v;" + two).way(0, 0), 1);
    }

    // ---- faults

    private static void firstByPlace() {
        CHECKS.promise("FAULTS of a text, the first by its place");
        String[] parts = {"post a;", "eye q;", "price 0;", "good a;", "link a a 1;"};
        int[] faults = {TWICE, NAME, WRONG, NAME, TWICE};
        int[] places = {5, 4, 6, 5, 7};
        for (int i = 0; i < parts.length; i++) {
            for (int j = 0; j < parts.length; j++) {
                fault("post a;" + parts[i] + parts[j], faults[i], 7 + places[i]);
            }
        }
        CHECKS.promise("SYNTAX and ROOM, the first by its place");
        fault(posts(9) + "?", ROOM, 56);
        fault("?" + posts(9), SYNTAX, 0);
        fault(EIGHT + "?post i;", SYNTAX, 56);
        fault("eye a;eye a;eye a;eye a;eye a;" + posts(9), ROOM, 24);
        fault(posts(9) + "eye a;eye a;eye a;eye a;eye a;", ROOM, 56);
    }

    private static void textsEnd() {
        CHECKS.promise("the text's end: its length");
        String[] cuts = {"post", "post a", "link", "link a", "link a b", "link a b 1", "way", "way w", "way w a", "way w a b",
            "good", "good w", "bad", "bad w", "eye", "eye a", "price", "price 1", "seed", "seed 1"};
        for (String cut : cuts) {
            fault(cut, SYNTAX, cut.length());
            fault("seed 1;" + cut, SYNTAX, 7 + cut.length());
            fault(cut + " ", SYNTAX, cut.length() + 1);
            fault(cut + "\t\n\r ", SYNTAX, cut.length() + 4);
        }
    }

    private static void ofOnePlace() {
        CHECKS.promise("of one place the least");
        String full = "price 1;".repeat(133) + "price";
        fault(full + " 1", ROOM, full.length() + 1);
        for (String strange : new String[] {"q", ";", "?", "price", "12345", "abcdefghi"}) {
            fault(full + " " + strange, SYNTAX, full.length() + 1);
        }
        CHECKS.promise("of one place the least: NAME, not WRONG");
        fault(TWO + "way w a q;", NAME, 33);
        fault(TWO + "way w q q;", NAME, 31);
        fault(TWO + "way w a w;", NAME, 33);
    }

    private static void tokens() {
        CHECKS.promise("2 ROOM: a 401st TOKEN");
        // 16 tokens in 35 bytes, then three tokens in six bytes each
        String start = TWO + "way w a b;";
        String most = start + "bad w;".repeat(128);
        sound(most);
        sound(most + " \n");
        sound(start + "bad w;".repeat(127));
        fault(most.substring(0, most.length() - 1), SYNTAX, most.length() - 1);
        fault(most + "bad w;", ROOM, most.length());
        fault(most + "  bad", ROOM, most.length() + 2);
        fault(most + "post", ROOM, most.length());
        fault(most + "bad?", ROOM, most.length());
        fault(most + "?bad", SYNTAX, most.length());
        fault(most + "w", SYNTAX, most.length());
        fault(most + "bad w;".repeat(100), ROOM, most.length());
        fault("?" + most + "bad", SYNTAX, 0);
        String full = "price 1;".repeat(133) + "price";
        fault(full, SYNTAX, full.length());
        fault(full + " ", SYNTAX, full.length() + 1);
        fault(full + "1;", ROOM, full.length());
        fault(full + "0;", ROOM, full.length());
    }

    private static void roomAtFirstWord() {
        CHECKS.promise("a 9th POST, a 13th LINK, a 13th WAY, a 5th line of 'eye' (at the line's first word)");
        String twelve = EIGHT + links(12);
        String all = twelve + ways(12) + "eye a;eye a;eye a;eye a;";
        sound(all);
        fault(all + "\tpost z;", ROOM, all.length() + 1);
        fault(all + "\tlink a b 1;", ROOM, all.length() + 1);
        fault(all + "\tway z a b;", ROOM, all.length() + 1);
        fault(all + "\teye a;", ROOM, all.length() + 1);
        CHECKS.promise("at the line's first word, whatever the line is");
        fault(all + "post a;", ROOM, all.length());
        fault(all + "link q q 0;", ROOM, all.length());
        fault(all + "way a q q;", ROOM, all.length());
        fault(all + "eye q;", ROOM, all.length());
        fault(all + "post", ROOM, all.length());
        fault(all + "link ?", ROOM, all.length());
        CHECKS.promise("lines that are told without end");
        sound(all + "good k;bad k;price 1;seed 1;price 2;seed 2;");
        CHECKS.promise("a word within a line is no line's first word");
        fault(EIGHT + "eye post;", SYNTAX, 60);
    }

    private static void roomInRow() {
        CHECKS.promise("a 9th NAME in a row of POSTS (at it)");
        String eight = "way w a b c d e f g h";
        fault(ROW + eight + " i;", ROOM, ROW.length() + 22);
        fault(ROW + eight + " a;", ROOM, ROW.length() + 22);
        fault(ROW + eight + "  q q q", ROOM, ROW.length() + 23);
        fault(ROW + eight + " 7;", SYNTAX, ROW.length() + 22);
        fault(ROW + eight + " way;", SYNTAX, ROW.length() + 22);
        fault(ROW + eight, SYNTAX, ROW.length() + 21);
        sound(ROW + eight + ";");
        fault("way w a a a a a a a a;" + EIGHT, WRONG, 8);
        fault("way w a a a a a a a a a;" + EIGHT, ROOM, 22);
        sound(ROW + eight + ";way v h g f e d c b a;");
    }

    private static void syntaxAndRoomFirst() {
        CHECKS.promise("If there is none, likewise: 3, 4, 5");
        for (String early : new String[] {"post a;post a;", "eye q;", "price 0;", "link a a 1;"}) {
            fault(early + "?", SYNTAX, early.length());
            fault(early + "post", SYNTAX, early.length() + 4);
            fault(early + "eye a;eye a;eye a;eye a;eye a;", ROOM, early.length() + (early.startsWith("eye") ? 18 : 24));
            fault(early + "way w a b c d e f g h i;", ROOM, early.length() + 22);
        }
    }

    private static void ownNamesTwice() {
        CHECKS.promise("3 TWICE: (at it) a NAME that an earlier line of 'post' or 'way' has told as its own");
        fault("post a;post a;", TWICE, 12);
        fault("post a;post b;post a;", TWICE, 19);
        fault(TWO + "way a a b;", TWICE, 29);
        fault(TWO + "way w a b;post w;", TWICE, 40);
        fault(TWO + "way w a b;way w b a;", TWICE, 39);
        fault(TWO + "way w a b;way v b a;way w a b;", TWICE, 49);
        fault("post a;post a;post a;", TWICE, 12);
        sound(TWO + "way w a b;way v a b;way u b a;");
        CHECKS.promise("a NAME that a line does not tell as its own");
        sound("eye a;link a b 1;bad w;way w a b;post a;post b;");
    }

    private static void linksTwice() {
        CHECKS.promise("(at the second NAME) a LINK of a POST and itself, or of two that an earlier LINK joins");
        fault("post a;link a a 1;", TWICE, 14);
        fault("link  a  a 1;post a;", TWICE, 9);
        fault(TWO + "link a b 2;", TWICE, 32);
        fault(TWO + "link b a 2;", TWICE, 32);
        fault(TWO + "post c;link b c 1;link c a 1;link c b 1;", TWICE, 61);
        sound(TWO + "post c;link b c 1;link c a 1;");
        CHECKS.promise("a LINK of no POSTS joins none");
        fault("link q q 1;", NAME, 5);
        fault("post a;link a q 1;link a q 1;", NAME, 14);
        fault("post a;link q a 1;link a q 1;", NAME, 12);
    }

    private static void names() {
        CHECKS.promise("4 NAME: (at it) in 'link', in a row, in 'eye': no POST of the whole text");
        fault("post a;link q a 1;", NAME, 12);
        fault("post a;link a q 1;", NAME, 14);
        fault("link a q 0;post a;", NAME, 7);
        fault(TWO + "way w q a b;", NAME, 31);
        fault(TWO + "way w a q b;", NAME, 33);
        fault(TWO + "way w a b q;", NAME, 35);
        fault("eye a;", NAME, 4);
        fault(TWO + "way w a b;eye w;", NAME, 39);
        fault(TWO + "way w a b;link w a 1;", NAME, 40);
        fault(TWO + "way w a b;way v a w;", NAME, 43);
        sound("eye a;way w a b;link b a 1;post b;post a;");
        CHECKS.promise("in 'good', 'bad': no WAY of the whole text");
        fault("good w;", NAME, 5);
        fault("bad w;", NAME, 4);
        fault(TWO + "way w a b;good a;", NAME, 40);
        fault(TWO + "way w a b;bad v;", NAME, 39);
        sound("good w;bad v;" + TWO + "way w a b;way v a b;");
    }

    private static void namesToldTwice() {
        CHECKS.promise("(a NAME told twice is what the first line tells)");
        fault("good a;post a;way a a a;", NAME, 5);
        fault("eye a;post a;post b;link a b 1;way a a b;", TWICE, 35);
        fault("eye w;" + TWO + "way w a b;post w;", NAME, 4);
        fault("good w;" + TWO + "way w a b;post w;", TWICE, 47);
        fault("way a a b;" + TWO, NAME, 6);
        fault(TWO + "post a;eye a;", TWICE, 30);
    }

    private static void wrongInts() {
        CHECKS.promise("5 WRONG: (at the INT) a RISK not 1 .. 9, a PRICE not 1 .. 99");
        fault("post a;post b;link  a  b  0;", WRONG, 26);
        fault("post a;post b;link a b10;", WRONG, 22);
        fault("price  100;", WRONG, 7);
        fault("price0;", WRONG, 5);
        fault("price 5;price 0;price 5;", WRONG, 14);
        fault("link a b 0;post a;post b;link a b 1;", WRONG, 9);
    }

    private static void wrongRows() {
        CHECKS.promise("(at the NAME) in a row: a POST that is in it ahead");
        fault(TWO + "way w a a;", WRONG, 33);
        fault(TWO + "way w a b a;", WRONG, 35);
        fault(ROW + "way w a b c d e f g f;", WRONG, ROW.length() + 20);
        fault(ROW + "way w b a b;", WRONG, ROW.length() + 10);
        CHECKS.promise("else one that no LINK of the whole text joins to the one right ahead");
        fault(ROW + "way w a c;", WRONG, ROW.length() + 8);
        fault(ROW + "way w c a;", WRONG, ROW.length() + 8);
        fault(ROW + "way w h a;", WRONG, ROW.length() + 8);
        fault(ROW + "way w a b d;", WRONG, ROW.length() + 10);
        fault(ROW + "way w h g f e d c b h;", WRONG, ROW.length() + 20);
        sound("way w a c;" + ROW + "link c a 1;");
        sound("way w c a;" + ROW + "link c a 1;");
        sound(ROW + "way w b a;");
    }

    private static void wrongRowsAndLinks() {
        CHECKS.promise("(nothing, if one of the two is no POST");
        fault(TWO + "post c;way w a q c;", NAME, 40);
        fault("price 1;way w q a;" + TWO, NAME, 14);
        CHECKS.promise("a LINK whose RISK alone is wrong is one");
        fault("way w a b;post a;post b;link a b 0;", WRONG, 33);
        fault("way w a b;post a;post b;link b a 10;", WRONG, 33);
        CHECKS.promise("one of a POST and itself is none)");
        fault("way w a a;post a;link a a 1;", WRONG, 8);
        fault("way w a b;post a;post b;link a a 1;", WRONG, 8);
        CHECKS.promise("a LINK of what is no POST joins none");
        fault("way w a b;post a;post b;link a q 1;", WRONG, 8);
        CHECKS.promise("a LINK of the text ahead is none");
        FaultWays x = Checks.of(TWO + "way w a b;");
        Checks.type(x, "post a;post b;way w a b;");
        CHECKS.due("read", x.read(), WRONG);
        CHECKS.due("place", x.place(), 22);
        Checks.type(x, "post a;post b;link a b 1;way w b a;");
        CHECKS.due("read", x.read(), 0);
        CHECKS.promise("a LINK told twice joins as the first one does");
        fault("way w a b;post a;post b;link a b 1;link a b 1;", TWICE, 42);
    }
}
