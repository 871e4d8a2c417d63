/** Nets that several tests use. */
final class Nets {
    /** Links 0 ab, 1 bc, 2 cd, 3 ac; ways 0 abc (links 3), 1 acd (links 12), 2 ab (links 1). */
    static final String NET = "post a;post b;post c;post d;link a b 2;link b c 5;link c d 1;link c a 3;"
        + "way x a b c;way y a c d;way z a b;";
    /** Four posts, all joined: 0 ab, 1 ac, 2 ad, 3 bc, 4 bd, 5 cd. */
    static final String FULL = "post a;post b;post c;post d;link a b 1;link a c 2;link a d 3;link b c 4;link b d 5;link c d 6;";
    /** A row of posts a .. e: links 0 ab, 1 bc, 2 cd, 3 de. */
    static final String CHAIN = "post a;post b;post c;post d;post e;link a b 1;link b c 1;link c d 1;link d e 1;";

    /** Twelve links: 0 ab, 1 ac, 2 ad, 3 ae, 4 af, 5 ag, 6 bc, 7 bd, 8 be, 9 bf, 10 bg, 11 gh. */
    static final String TWELVE = "post a;post b;post c;post d;post e;post f;post g;post h;link a b 9;link a c 9;link a d 9;link a e 9;"
        + "link a f 9;link a g 9;link b c 9;link b d 9;link b e 9;link b f 9;link b g 9;link h g 9;";
    /** A way for each of the twelve links alone. */
    static final String ALONE = TWELVE + "way k a b;way l a c;way m a d;way n a e;way o a f;way p a g;way q b c;way r b d;"
        + "way s b e;way t b f;way u b g;way v h g;";

    private Nets() {
    }
}
