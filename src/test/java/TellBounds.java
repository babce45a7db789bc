/** The bounds that the part "==== 3." of "Terms" names: telling, dictionaries, laws, a child's word, checks. */
final class TellBounds {
    private TellBounds() {
    }

    static void ask(Document doc) {
        doc.promise(Document.TERMS);
        told(doc);
        dictionary(doc);
        fewest(doc);
        lawTexts(doc);
        lawFaults(doc);
        lawOpen(doc);
        lawLength(doc);
        madeUp(doc);
        check(doc);
    }

    private static void told(Document doc) {
        doc.says("TOLD: BRIEF of a MEANING's WORD IN USE by all others IN USE");
        WordYear x = new WordYear();
        x.word(0, 1, 9);
        Due.is("alone", x.told(0), -2);
        x.word(0, 62, 1);
        x.word(1, 0, 8);
        Due.is("by a NOT", x.told(0), 9);
        x.word(0, 1, 9);
        Due.is("of like length", x.told(0), 9);
        x.word(0, 1, 2);
        Due.is("by a shorter one", x.told(0), 2);
        Due.is("the shorter by a longer one", x.told(4), 9);
        x.strike(4);
        x.strike(3);
        x.strike(2);
        Due.is("not by struck ones", x.told(0), -2);
    }

    private static void dictionary(Document doc) {
        doc.says("DICTIONARY: each such WORD that can be TOLD leads to all WORDS by which it is SAID HOW (by the others, NOT, AND, "
                + "OR too, the lowest of like LENGTH; of what it is made of likewise, down to WORDS)");
        WordYear x = Scene.of(15, 1, 2, 4, 8);
        Due.is("no OR", x.leads(0), 0);
        x.word(3, 0, 2);
        x.word(3, 0, 1);
        x.word(3, 0, 1);
        Due.is("all four and the lowest of the shorter ORs", x.leads(0), 2 + 4 + 8 + 16 + 64);
        x.word(0, 15, 7);
        x.word(0, 15, 7);
        // A word of 7 and four with three ORs of 1 are 7 long: the WORD, and of these the lowest.
        Due.is("of like ones the WORD", x.leads(0), 256);
        Due.is("a word never leads to itself", x.leads(8), 1);
        x.strike(0);
        Due.is("the other WORD of 7", x.leads(8), 512);
        WordYear ends = Scene.of(0, 63);
        ends.word(1, 0, 1);
        Due.is("no thing by what is not all", ends.leads(0), 2 + 4);
        Due.is("all by what is not no thing", ends.leads(1), 1 + 4);
        WordYear through = new WordYear();
        through.word(0, 0, 9);
        through.word(0, 31, 1);
        through.word(0, 32, 1);
        through.word(1, 0, 1);
        through.word(3, 0, 1);
        // No thing is what is not all, and all is 31 or 32: 4 long.
        Due.is("all on the way down", through.leads(0), 2 + 4 + 8 + 16);
        doc.says("ROUND: those from which one comes back to them");
        Due.is("8 and 9 lead to one another", x.round(), 256 + 512);
        x.strike(9);
        Due.is("8 leads to others alone", x.round(), 0);
        WordYear y = Scene.ten();
        // 0 leads to 1, all others to 0.
        Due.is("of ten", y.round(), 3);
        y.strike(0);
        Due.is("of nine", y.round(), 6);
        Due.is("of none", new WordYear().round(), 0);
        WordYear z = Scene.of(1, 2, 4, 8, 48);
        z.word(3, 0, 1);
        z.word(1, 0, 1);
        // Each is what all the others are not.
        Due.is("of five", z.round(), 31);
        z.strike(6);
        Due.is("of five without the NOT", z.round(), 0);
    }

    private static void fewest(Document doc) {
        doc.says("FEWEST: the least number of WORDS IN USE (any KIND) by which the MEANINGS of all others of KIND 0 IN USE can be "
                + "SAID; of like ones the least set");
        Due.is("of none", new WordYear().fewest(), 0);
        WordYear joints = new WordYear();
        joints.word(1, 0, 1);
        joints.word(2, 0, 1);
        joints.word(3, 0, 1);
        Due.is("of no MEANING's word", joints.fewest(), 0);
        Due.is("of one", Scene.of(0).fewest(), 1);
        Due.is("of ten alike", Scene.ten().fewest(), 1);
        WordYear ten = Scene.of(0, 1, 2, 3, 4, 5, 6, 7, 8, 9);
        Due.is("all ten", ten.fewest(), 1023);
        ten.strike(0);
        ten.strike(9);
        Due.is("all in use", ten.fewest(), 1023 - 1 - 512);
        WordYear x = Scene.of(1, 62);
        x.word(1, 0, 1);
        // Both, or either with the NOT.
        Due.is("the least set of two", x.fewest(), 3);
        x.word(0, 62, 1);
        Due.is("one more that can be said", x.fewest(), 3);
        x.strike(1);
        Due.is("with the NOT", x.fewest(), 5);
    }

    private static void law(String text, int due) {
        WordYear x = laws();
        Due.is("law of " + text, Text.law(x, 3, text), due);
    }

    /** a 7, b 28, c 49; d a NOT, e an AND, f an OR; g 1, struck; h, i there, j 32. */
    private static WordYear laws() {
        WordYear x = new WordYear();
        x.word(0, 7, 2);
        x.word(0, 28, 3);
        x.word(0, 49, 4);
        x.word(1, 0, 5);
        x.word(2, 0, 6);
        x.word(3, 0, 7);
        x.word(0, 1, 8);
        x.word(0, 0, 1);
        x.word(0, 63, 1);
        x.word(0, 32, 9);
        x.strike(6);
        return x;
    }

    private static void lawTexts(Document doc) {
        doc.says("LAWS 0 to 3: TEXTS of at most 60 bytes");
        WordYear x = laws();
        for (int i = 0; i < 4; i++) {
            Due.is("law " + i, Text.law(x, i, "a".repeat(59) + "b"), 4);
            Due.is("its meaning", x.lawIs(i, 0), 4);
        }
        Due.is("law 4", Text.law(x, 4, "a"), -1);
        Due.is("law -1", Text.law(x, -1, "a"), -1);
        WordYear y = laws();
        Due.is("61 bytes", Text.law(y, 0, "a".repeat(61)), -1);
        Due.is("60 of them", y.law(0, 60), 7);
        Due.is("29 ORs", Text.law(y, 1, "a+".repeat(29) + "bc"), 7 | 16);
        doc.says("A: B with a + (OR) between two; a B: D with nothing between two (AND); a D: -D (NOT), (A), or a letter a to j "
                + "(WORDS 0 to 9, of KIND 0). From the left on.");
        law("a", 7);
        law("j", 32);
        law("h", 0);
        law("i", 63);
        law("-h", 63);
        law("-i", 0);
        law("-j", 31);
        law("a+b", 31);
        law("ab", 4);
        law("a+bc", 7 | 16);
        law("ab+c", 4 | 49);
        law("-ab", 24);
        law("-(ab)", 59);
        law("(a+b)c", 17);
        law("--a", 7);
        law("a--b", 4);
    }

    private static void lawFaults(Document doc) {
        doc.says("FAULTS: 1 what can't stand there (the end, too)");
        String whole = "a+-b(c+-(a))c";
        law(whole, 7 | 35 & 49);
        int[] ends = {2, 3, 5, 6, 7, 8, 9, 10, 11};
        for (int n : ends) {
            law(whole.substring(0, n), -1000 - n);
        }
        for (int at = 0; at <= whole.length(); at++) {
            law(whole.substring(0, at) + " " + whole.substring(at), -1000 - at);
            law(whole.substring(0, at) + "k", -1000 - at);
            law(whole.substring(0, at) + "?z-------", -1000 - at);
        }
        law("+a", -1000);
        law(")", -1000);
        law("A", -1000);
        law("`", -1000);
        law("a++b", -1002);
        law("a+)", -1002);
        law("()", -1001);
        law("a)", -1001);
        law("(a))", -1003);
        law("-)", -1001);
        law("" + (char) 0, -1000);
        law("a" + (char) 255, -1001);
        law("" + (char) (128 + 'a'), -1000);
        doc.says("2 a letter of no WORD of KIND 0, at it");
        law("d", -2000);
        law("e", -2000);
        law("f", -2000);
        law("ad", -2001);
        law("a+-(bf", -2005);
        law("g", 1);
        WordYear x = Scene.of(1, 2);
        Due.is("the last there", Text.law(x, 0, "b"), 2);
        Due.is("none there yet", Text.law(x, 0, "c"), -2000);
        Due.is("none there yet, the last letter", Text.law(x, 0, "j"), -2000);
        Due.is("the letter behind the last", Text.law(x, 0, "k"), -1000);
        x.word(0, 4, 1);
        Due.is("there now", Text.law(x, 0, "c"), 4);
    }

    private static void lawOpen(Document doc) {
        doc.says("5 a seventh of ( - open in one another, at it");
        law("((((((a))))))", 7);
        law("(((((((a)))))))", -5006);
        law("------a", 7);
        law("-------a", -5006);
        law("-(-(-(a)))", 56);
        law("-(-(-(-a)))", -5006);
        law("(((((((", -5006);
        law("a((((((b))))))", 4);
        law("a+(((((((", -5008);
        law("((((((+", -1006);
        law("((((((d", -2006);
        doc.says("(a - is open till its D ends)");
        law("------a------a", 7);
        law("(((((-a-a+-a)))))", 56);
        law("-----(a)-----(a)", 56);
        law("-----(-a)", -5006);
        law("(((((-(a))))))", -5006);
        law("------(a)", -5006);
        law("-(a)-(a)-(a)-(a)-(a)-(a)-(a)", 56);
    }

    private static void lawLength(Document doc) {
        doc.says("its LENGTH: of all WORDS in it, and of the least NOT, AND, OR of all WORDS (STRUCK ones, too) for each of these (of "
                + "a KIND that no WORD is of: 0)");
        WordYear x = new WordYear();
        x.word(0, 7, 2);
        x.word(0, 28, 9);
        Text.law(x, 0, "-a-b+ab+-a");
        Text.law(x, 1, "b");
        Text.law(x, 2, "aaa");
        Due.is("no kind has a word", x.lawIs(0, 1), 3 * 2 + 2 * 9);
        Due.is("a letter alone", x.lawIs(1, 1), 9);
        Due.is("a letter thrice", x.lawIs(2, 1), 6);
        x.word(1, 0, 9);
        Due.is("three NOTs", x.lawIs(0, 1), 24 + 27);
        x.word(2, 0, 8);
        Due.is("two ANDs", x.lawIs(0, 1), 24 + 27 + 16);
        Due.is("two ANDs of three", x.lawIs(2, 1), 6 + 16);
        x.word(3, 0, 7);
        Due.is("two ORs", x.lawIs(0, 1), 24 + 27 + 16 + 14);
        x.word(1, 0, 1);
        x.word(2, 0, 1);
        x.word(3, 0, 1);
        Due.is("the least of each", x.lawIs(0, 1), 24 + 3 + 2 + 2);
        for (int w = 0; w < 8; w++) {
            x.strike(w);
        }
        Due.is("struck ones, too", x.lawIs(0, 1), 24 + 3 + 2 + 2);
        doc.says("STRUCK in it: letters that are STRUCK (bits)");
        Due.is("both", x.lawIs(0, 2), 3);
        Due.is("no joints, no others", x.lawIs(1, 2), 2);
        WordYear y = laws();
        Text.law(y, 0, "agj");
        Due.is("the one that is struck", y.lawIs(0, 2), 64);
        y.strike(9);
        Due.is("the last one, too", y.lawIs(0, 2), 64 + 512);
        y.strike(1);
        Due.is("one that is not in it", y.lawIs(0, 2), 64 + 512);
        doc.says("ANEW: BRIEF of its MEANING by WORDS IN USE");
        Due.is("by h", y.lawIs(0, 3), 1);
        y.strike(7);
        // 0: not i is 6; a and what is not a more.
        Due.is("without h", y.lawIs(0, 3), 6);
        Due.is("nothing is in use", x.lawIs(0, 3), -2);
    }

    private static void madeUp(Document doc) {
        doc.says("MADE UP: a WORD of a LENGTH that a child makes up: the MEANING by which TALK with it is least; of like ones the "
                + "lowest; how much less than now");
        WordYear x = new WordYear();
        Due.is("all alike", x.madeUp(9, 0), 0);
        Due.is("no less", x.madeUp(9, 1), 0);
        x.want(0, 63, 1, 0);
        Due.is("the highest", x.madeUp(9, 0), 63);
        Due.is("991 less", x.madeUp(9, 1), 991);
        Due.is("999 less", x.madeUp(1, 1), 999);
        x.want(1, 5, 1, 0);
        Due.is("of like ones the lowest", x.madeUp(1, 0), 5);
        x.word(0, 5, 2);
        x.word(0, 63, 1);
        Due.is("one less", x.madeUp(1, 1), 1);
        Due.is("by a shorter word", x.madeUp(1, 0), 5);
        Due.is("as long: none is better", x.madeUp(2, 0), 0);
        Due.is("as long: no less", x.madeUp(2, 1), 0);
        for (int w = 2; w < 10; w++) {
            x.word(0, 9, 9);
        }
        Due.is("beside ten words", x.madeUp(1, 0), 5);
        Due.is("they stay ten", x.count(0), 10);
        x.silence(1);
        Due.is("at most silence", x.madeUp(1, 1), 0);
        WordYear y = Scene.of(4);
        y.strike(0);
        y.want(0, 4, 1, 0);
        Due.is("struck ones don't talk now", y.madeUp(1, 1), 999);
        Text.near(y, "ky+x*3(1=1)");
        Due.is("by what is near nothing is better", y.madeUp(1, 0), 4);
        y.want(0, 63, 2, 0);
        // 63: twice 1, and 1 + 15 for 4; 4: 1, and twice 1 + 5.
        Due.is("near to both", y.madeUp(1, 0), 4);
        Due.is("less by that", y.madeUp(1, 1), 3000 - 13);
        WordYear z = new WordYear();
        z.want(0, 0, 1, 0);
        Text.near(z, "kx*7+1(1=1)");
        // By itself no thing is said for 1, by thing 0 for 1 + 8.
        Due.is("no thing is wanted", z.madeUp(1, 0), 0);
        Due.is("less by that", z.madeUp(1, 1), 999);
        z.word(0, 0, 9);
        z.want(0, 63, 1, 0);
        // Now 9, and 63 by no thing for 9 + 1: 19. With no thing of 1: 1 and 2.
        Due.is("no thing for both", z.madeUp(1, 0), 0);
        Due.is("16 less", z.madeUp(1, 1), 16);
    }

    private static void check(Document doc) {
        doc.says("CHECK of a TONGUE: BRIEF of MEANINGS 0, 1, .. (-2: can't be): right, or the first number that is not so");
        int[] right = new int[64];
        java.util.Arrays.fill(right, -2);
        right[0] = 4;
        right[63] = 5;
        Due.is("all right", Text.check(noneAndAll(), 3, right), -1);
        for (int place = 0; place < 64; place++) {
            int[] some = right.clone();
            some[63] = 6;
            some[place] = -1;
            Due.is("wrong at " + place, Text.check(noneAndAll(), 3, some), place);
        }
        right[0] = 4 + 256;
        Due.is("by its third byte", Text.check(noneAndAll(), 3, right), 0);
        right[0] = 4 + (1 << 31);
        Due.is("by its first bit", Text.check(noneAndAll(), 3, right), 0);
        right[0] = -2;
        Due.is("by another tongue", Text.check(noneAndAll(), 2, right), -1);
    }

    private static WordYear noneAndAll() {
        WordYear x = new WordYear();
        x.word(0, 0, 4);
        x.word(0, 63, 5);
        return x;
    }
}
