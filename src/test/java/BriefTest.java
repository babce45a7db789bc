/** Promises 9 brief, 10 how, 32 check. */
final class BriefTest {
    public static void main(String[] args) {
        brief();
        cheapestJoints();
        allMeanings();
        how();
        howOfLikeOnes();
        check();
        Due.end("BriefTest");
    }

    private static void brief() {
        WordYear x = new WordYear();
        Due.is("nothing can be said", x.brief(0, 0), -2);
        Due.is("a tongue of no words there", x.brief(1, 0), -1);
        x.word(0, 3, 2);
        x.word(0, 6, 3);
        x.word(1, 0, 4);
        x.word(2, 0, 1);
        x.word(3, 0, 5);
        Due.is("a word", x.brief(31, 3), 2);
        Due.is("NOT", x.brief(31, 60), 6);
        Due.is("AND", x.brief(31, 2), 6);
        Due.is("OR", x.brief(31, 7), 10);
        Due.is("AND without its word", x.brief(23, 2), 2 + 4 + 3 + 4 + 5 + 4);
        Due.is("OR without its word", x.brief(15, 7), 2 + 4 + 3 + 4 + 1 + 4);
        Due.is("neither", x.brief(7, 2), -2);
        Due.is("nothing at all: 3 and what is not 3", x.brief(31, 0), 2 + 6 + 1);
        Due.is("everything: 3 or what is not 3", x.brief(31, 63), 9 + 4);
        Due.is("1: 3 and not 6", x.brief(31, 1), 2 + 7 + 1);
        Due.is("8 can't", x.brief(31, 8), -2);
        Due.is("the empty tongue", x.brief(0, 3), -2);
        Due.is("meaning 64", x.brief(31, 64), -1);
        Due.is("meaning -1", x.brief(31, -1), -1);
        Due.is("tongue 32", x.brief(32, 3), -1);
        Due.is("tongue -1", x.brief(-1, 3), -1);
        x.strike(0);
        Due.is("a tongue may have struck words", x.brief(31, 3), 2);
    }

    private static void cheapestJoints() {
        WordYear x = new WordYear();
        x.word(0, 1, 1);
        x.word(0, 2, 1);
        x.word(1, 0, 9);
        x.word(1, 0, 2);
        x.word(3, 0, 7);
        x.word(3, 0, 3);
        x.word(0, 2, 5);
        Due.is("the shorter NOT", x.brief(127, 62), 3);
        Due.is("the longer NOT alone", x.brief(7, 62), 10);
        Due.is("the shorter OR", x.brief(127, 3), 5);
        Due.is("the shorter word", x.brief(127, 2), 1);
        Due.is("the longer word alone", x.brief(64, 2), 5);
    }

    /** Six things, each with a word: a meaning of n things by OR has n words and n - 1 ORs. */
    private static void allMeanings() {
        WordYear x = new WordYear();
        for (int thing = 0; thing < 6; thing++) {
            x.word(0, 1 << thing, 1);
        }
        x.word(3, 0, 1);
        for (int meaning = 1; meaning < 64; meaning++) {
            Due.is("brief(127, " + meaning + ")", x.brief(127, meaning), 2 * Integer.bitCount(meaning) - 1);
        }
        Due.is("brief(127, 0)", x.brief(127, 0), -2);
        x.word(2, 0, 9);
        Due.is("brief(255, 0)", x.brief(255, 0), 11);
    }

    private static void due(WordYear x, int tongue, int meaning, int kind, int first, int second) {
        String call = "how(" + tongue + ", " + meaning + ", ";
        Due.is(call + "0)", x.how(tongue, meaning, 0), kind);
        Due.is(call + "1)", x.how(tongue, meaning, 1), first);
        Due.is(call + "2)", x.how(tongue, meaning, 2), second);
    }

    private static void how() {
        WordYear x = new WordYear();
        x.word(0, 3, 2);
        x.word(0, 6, 3);
        x.word(1, 0, 4);
        x.word(2, 0, 1);
        x.word(3, 0, 5);
        due(x, 31, 3, 0, 0, -1);
        due(x, 31, 60, 1, 3, -1);
        due(x, 31, 2, 2, 3, 6);
        due(x, 31, 7, 3, 3, 6);
        due(x, 31, 0, 2, 3, 60);
        due(x, 31, 8, -2, -2, -2);
        due(x, 32, 8, -1, -1, -1);
        due(x, -1, 8, -1, -1, -1);
        due(x, 31, 64, -1, -1, -1);
        due(x, 31, -1, -1, -1, -1);
        Due.is("what 3", x.how(31, 3, 3), -1);
        Due.is("what -1", x.how(31, 3, -1), -1);
        Due.is("what 3 of what can't be said", x.how(31, 8, 3), -1);
    }

    private static void howOfLikeOnes() {
        WordYear x = new WordYear();
        x.word(0, 1, 9);
        x.word(0, 62, 6);
        x.word(0, 62, 3);
        x.word(0, 62, 3);
        x.word(1, 0, 6);
        x.word(0, 1, 9);
        due(x, 63, 62, 0, 2, -1);
        due(x, 59, 62, 0, 3, -1);
        due(x, 63, 1, 0, 0, -1);
        due(x, 62, 1, 0, 5, -1);
        due(x, 30, 1, 1, 62, -1);
        WordYear y = new WordYear();
        y.word(0, 61, 1);
        y.word(0, 59, 1);
        y.word(0, 63 - 6, 7);
        y.word(2, 0, 3);
        y.word(1, 0, 1);
        y.word(3, 0, 2);
        // 57 is word 2 of length 7, and 61 and 59 is 5 long: the AND.
        due(y, 63, 57, 2, 59, 61);
        // 6: not 57 is 6 long; not 61 (2), not 59 (2) and an OR are 6 too: NOT is first.
        due(y, 63, 6, 1, 57, -1);
        WordYear z = new WordYear();
        z.word(0, 3, 1);
        z.word(0, 5, 1);
        z.word(0, 9, 1);
        z.word(0, 17, 1);
        z.word(2, 0, 1);
        z.word(3, 0, 1);
        // 1 is in both of any two of them.
        due(z, 63, 1, 2, 3, 5);
        due(z, 62, 1, 2, 5, 9);
        z.word(0, 2, 1);
        z.word(0, 4, 1);
        // 6: the OR of 2 and 4, 3 long; 7: 2 or 5, 3 or 4, 3 or 5, 3 long all.
        due(z, 255, 6, 3, 2, 4);
        due(z, 255, 7, 3, 2, 5);
        // 0: the AND of 2 and 4, or of 2 and 5, or of 3 and 4: the least pair.
        due(z, 255, 0, 2, 2, 4);
        due(z, 255 - 128, 0, 2, 2, 5);
        // 1 by an AND of length 1, and by an OR of nothing shorter: AND is first.
        due(z, 255, 1, 2, 3, 5);
    }

    private static void check() {
        WordYear x = new WordYear();
        Due.is("no numbers", Text.check(x, 0), -1);
        Due.is("all right of the empty tongue", Text.check(x, 0, -2, -2, -2), -1);
        x.word(0, 0, 4);
        x.word(0, 2, 5);
        Due.is("right", Text.check(x, 3, 4, -2, 5), -1);
        Due.is("wrong at 0", Text.check(x, 3, 5, -2, 5), 0);
        Due.is("wrong at 1 and 2", Text.check(x, 3, 4, -1, 6), 1);
        Due.is("wrong at 2, by the highest bit", Text.check(x, 3, 4, -2, 5 | 1 << 31), 2);
        Due.is("another tongue", Text.check(x, 1, 4, -2, -2), -1);
        int[] all = new int[64];
        java.util.Arrays.fill(all, -2);
        all[0] = 4;
        all[2] = 5;
        Due.is("64 right ones", Text.check(x, 3, all), -1);
        all[63] = 0;
        Due.is("the last is wrong", Text.check(x, 3, all), 63);
        x.feed(4, -2, 5, 0, 0);
        Due.is("n of 65", x.check(3, 65), -2);
        Due.is("n of -1", x.check(3, -1), -2);
        Due.is("n of MIN", x.check(3, Integer.MIN_VALUE), -2);
        Due.is("n of 1 << 30", x.check(3, 1 << 30), -2);
        Due.is("tongue 4", x.check(4, 1), -2);
        Due.is("tongue -1", x.check(-1, 1), -2);
        Due.is("6 numbers of 5", x.check(3, 6), -2);
        Due.is("the tape stays", x.count(5), 20);
        Due.is("3 numbers of 5", x.check(3, 3), -1);
        Due.is("the tape is empty", x.count(5), 0);
        x.feed(0, 0, 0, 0, 0);
        Due.is("no number of 5", x.check(3, 0), -1);
        Due.is("the tape is empty then, too", x.count(5), 0);
    }
}
