/** Promises 12 talk, 13 musts, 15 costs, 16 least, 17 spite, 31 madeUp. */
final class TalkTest {
    public static void main(String[] args) {
        talk();
        musts();
        costs();
        costsBelowNothing();
        spite();
        madeUp();
        madeUpByNear();
        Due.end("TalkTest");
    }

    private static void talk() {
        WordYear x = new WordYear();
        Due.is("talk of no wants", x.talk(0, -1), 0);
        x.word(0, 1, 2);
        x.word(0, 2, 3);
        x.want(0, 1, 10, 0);
        x.want(1, 2, 100, 0);
        x.want(1, 1, 1, 0);
        x.want(3, 4, 1000, 0);
        Due.is("sort 0", x.talk(3, 0), 20);
        Due.is("sort 1", x.talk(3, 1), 302);
        Due.is("sort 2", x.talk(3, 2), 0);
        Due.is("sort 3", x.talk(3, 3), 1000000);
        Due.is("all", x.talk(3, -1), 1000322);
        Due.is("another tongue", x.talk(1, 1), 100002);
        x.people(1, 1000);
        Due.is("people don't matter", x.talk(3, 1), 302);
        x.silence(2);
        Due.is("at most silence", x.talk(3, -1), 20 + 200 + 2 + 2000);
        Due.is("sort 4", x.talk(3, 4), -1);
        Due.is("sort -2", x.talk(3, -2), -1);
        Due.is("tongue 4", x.talk(4, 0), -1);
        Due.is("tongue -1", x.talk(-1, 0), -1);
        x.silence(5000);
        for (int i = 4; i < 24; i++) {
            x.want(2, 63, 1000, 0);
        }
        Due.is("much talk", x.talk(3, -1), 322 + 21 * 5000000L);
        x.strike(0);
        Due.is("a tongue with a struck word", x.talk(3, 0), 20);
    }

    private static void musts() {
        WordYear x = new WordYear();
        Due.is("none", x.musts(0), 0);
        x.word(0, 1, 5);
        x.word(1, 0, 2);
        x.want(0, 1, 1, 5);
        x.want(0, 1, 1, 4);
        x.want(0, 62, 1, 7);
        x.want(0, 62, 0, 6);
        x.want(0, 2, 1, 2000);
        x.want(0, 2, 1, 0);
        Due.is("both words", x.musts(3), 2 + 8 + 16);
        Due.is("no NOT", x.musts(1), 2 + 4 + 8 + 16);
        Due.is("no words", x.musts(0), 31);
        Due.is("tongue 4", x.musts(4), -1);
        Due.is("tongue -1", x.musts(-1), -1);
        x.silence(0);
        Due.is("silence doesn't help", x.musts(3), 26);
        Text.near(x, "k1000(a=2)");
        Due.is("what is near does", x.musts(3), 2 + 8);
    }

    private static void costs() {
        WordYear x = new WordYear();
        Due.is("costs(0) without words", x.costs(0), -1000000000);
        Due.is("least() without words", x.least(), -1);
        x.word(0, 1, 2);
        x.word(0, 2, 3);
        x.word(0, 1, 4);
        x.word(1, 0, 1);
        Due.is("least() without wants", x.least(), 0);
        x.want(0, 1, 10, 0);
        x.want(2, 2, 1, 0);
        Due.is("costs(0)", x.costs(0), 20);
        Due.is("costs(1)", x.costs(1), 997);
        Due.is("costs(2)", x.costs(2), 0);
        Due.is("costs(3)", x.costs(3), 0);
        Due.is("costs(4)", x.costs(4), -1000000000);
        Due.is("costs(-1)", x.costs(-1), -1000000000);
        Due.is("least()", x.least(), 2);
        x.strike(2);
        Due.is("costs(2), struck", x.costs(2), -1000000000);
        Due.is("costs(0) then", x.costs(0), 9980);
        Due.is("least() then", x.least(), 3);
        x.strike(3);
        Due.is("least() of two", x.least(), 1);
        x.often(0, 0);
        Due.is("least(), word 0 no more wanted", x.least(), 0);
        x.strike(0);
        x.strike(1);
        Due.is("least() of none", x.least(), -1);
        x.word(0, 2, 9);
        Due.is("a word behind struck ones", x.costs(4), 991);
        Due.is("least() of that", x.least(), 4);
    }

    /** By a law by which longer ones cost less, a tongue may be better without a word. */
    private static void costsBelowNothing() {
        WordYear x = new WordYear();
        x.word(0, 1, 1);
        x.word(0, 1, 9);
        x.word(0, 2, 5);
        x.want(0, 4, 1, 0);
        Text.near(x, "k[9-l]*10(c=1)");
        Due.is("talk", x.talk(7, -1), 81);
        Due.is("costs(0)", x.costs(0), -72);
        Due.is("costs(1)", x.costs(1), 0);
        Due.is("least()", x.least(), 0);
        Due.is("a child's word of that kind", x.madeUp(1, 0), 4);
    }

    private static void spite() {
        WordYear x = new WordYear();
        Due.is("spite(0) without words", x.spite(0), -1);
        x.word(0, 1, 1);
        x.word(0, 2, 1);
        x.word(0, 4, 1);
        x.silence(101);
        Due.is("of like ones the lowest", x.spite(2), 0);
        x.want(0, 1, 2, 0);
        x.want(1, 1, 5, 0);
        x.want(1, 2, 7, 0);
        x.want(0, 2, 3, 0);
        x.want(2, 4, 1, 0);
        // Sort 0: word 0 500 - 3 * 200, word 1 700 - 3 * 300, word 2 100.
        Due.is("spite(0)", x.spite(0), 2);
        // Sort 1: word 0 200 - 3 * 500, word 1 300 - 3 * 700, word 2 100.
        Due.is("spite(1)", x.spite(1), 2);
        // Sort 2: word 0 700, word 1 1000, word 2 -300.
        Due.is("spite(2)", x.spite(2), 1);
        Due.is("spite(3)", x.spite(3), 1);
        x.often(4, 0);
        x.often(1, 7);
        // Sort 0: word 0 700 - 3 * 200, word 1 700 - 3 * 300, word 2 0.
        Due.is("spite(0), three times its own", x.spite(0), 0);
        x.often(1, 6);
        // Sort 0: word 0 600 - 600, word 1 -200, word 2 0.
        Due.is("spite(0), of like ones", x.spite(0), 0);
        x.often(1, 5);
        Due.is("spite(0), less", x.spite(0), 2);
        Due.is("spite(4)", x.spite(4), -1);
        Due.is("spite(-1)", x.spite(-1), -1);
        x.strike(2);
        // Sort 0: word 0 500 - 600, word 1 700 - 900.
        Due.is("spite(0), all below nothing", x.spite(0), 0);
        x.strike(0);
        Due.is("spite(0) of one", x.spite(0), 1);
        x.strike(1);
        Due.is("spite(0) of none", x.spite(0), -1);
    }

    private static void madeUp() {
        WordYear x = new WordYear();
        Due.is("without wants", x.madeUp(1, 0), 0);
        Due.is("no less", x.madeUp(1, 1), 0);
        x.word(0, 3, 6);
        x.want(0, 3, 10, 0);
        x.want(1, 12, 2, 0);
        x.want(1, 51, 1, 0);
        Due.is("madeUp(1, 0)", x.madeUp(1, 0), 12);
        Due.is("madeUp(1, 1)", x.madeUp(1, 1), 2 * 999);
        Due.is("madeUp(9, 1)", x.madeUp(9, 1), 2 * 991);
        x.word(1, 0, 1);
        Due.is("a NOT: 12 or 51", x.madeUp(5, 0), 12);
        Due.is("both then", x.madeUp(5, 1), 2 * 995 + 994);
        x.often(2, 3);
        Due.is("51 oftener", x.madeUp(5, 0), 51);
        Due.is("both then", x.madeUp(5, 1), 3 * 995 + 2 * 994);
        x.silence(7);
        // Talk now: 60 + 14 + 21. With 51 of 5: 60 + 12 + 15; with 3 of 5: 50 + 14 + 21.
        Due.is("a shorter word for 3", x.madeUp(5, 0), 3);
        Due.is("one less each", x.madeUp(5, 1), 10);
        Due.is("of 6 nothing for 3", x.madeUp(6, 0), 51);
        Due.is("of 6, one less for 51", x.madeUp(6, 1), 3);
        Due.is("of 9 nothing at all", x.madeUp(9, 0), 0);
        Due.is("no less", x.madeUp(9, 1), 0);
        Due.is("madeUp(0, 0)", x.madeUp(0, 0), -1);
        Due.is("madeUp(10, 0)", x.madeUp(10, 0), -1);
        Due.is("madeUp(1, 2)", x.madeUp(1, 2), -1);
        Due.is("madeUp(1, -1)", x.madeUp(1, -1), -1);
        Due.is("it is not kept", x.count(0), 2);
        x.strike(0);
        Due.is("3 is struck: 3 or 12 (61 by NOT)", x.madeUp(1, 0), 3);
        Due.is("then less", x.madeUp(1, 1), 60);
        for (int i = 2; i < 10; i++) {
            x.word(2, 0, 1);
        }
        Due.is("ten words are there", x.madeUp(1, 1), 60);
    }

    private static void madeUpByNear() {
        WordYear x = new WordYear();
        x.want(0, 7, 1, 0);
        x.want(0, 56, 1, 0);
        Text.near(x, "k3*x+5*y(1=1)");
        // 63 for both: 1 + 9 each; 7 for both: 1 and 1 + 9 + 15.
        Due.is("near to both", x.madeUp(1, 0), 63);
        Due.is("less", x.madeUp(1, 1), 2000 - 20);
        x.often(0, 4);
        // 63: 50; 7: 4 + 25.
        Due.is("nearer to the one", x.madeUp(1, 0), 7);
        Due.is("less", x.madeUp(1, 1), 5000 - 29);
    }
}
