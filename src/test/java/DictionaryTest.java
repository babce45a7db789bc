/** Promises 25 told, 26 leads, 27 round, 28 fewest. */
final class DictionaryTest {
    public static void main(String[] args) {
        told();
        leads();
        leadsFarDown();
        round();
        fewest();
        Due.end("DictionaryTest");
    }

    private static void told() {
        WordYear x = new WordYear();
        Due.is("told(0) without words", x.told(0), -1);
        x.word(0, 3, 1);
        x.word(0, 60, 9);
        x.word(1, 0, 2);
        x.word(0, 3, 8);
        x.word(0, 4, 1);
        Due.is("told(0)", x.told(0), 8);
        Due.is("told(1)", x.told(1), 3);
        Due.is("told(2) of a NOT", x.told(2), -1);
        Due.is("told(3)", x.told(3), 1);
        Due.is("told(4)", x.told(4), -2);
        Due.is("told(5)", x.told(5), -1);
        Due.is("told(-1)", x.told(-1), -1);
        Text.near(x, "k0(1=1)");
        Due.is("what is near doesn't matter", x.told(4), -2);
        x.strike(3);
        Due.is("told(0), 3 struck", x.told(0), 11);
        Due.is("told(3), struck", x.told(3), -1);
        x.strike(2);
        Due.is("told(0), no NOT", x.told(0), -2);
    }

    private static void leads() {
        WordYear x = new WordYear();
        Due.is("leads(0) without words", x.leads(0), -1);
        x.word(0, 1, 9);
        x.word(0, 3, 2);
        x.word(0, 5, 2);
        x.word(2, 0, 3);
        x.word(2, 0, 1);
        x.word(2, 0, 1);
        Due.is("1 by 3, 5 and the lowest of the shorter ANDs", x.leads(0), 2 + 4 + 16);
        Due.is("3 can't be told", x.leads(1), 0);
        Due.is("an AND", x.leads(3), -1);
        Due.is("no word", x.leads(6), -1);
        Due.is("no word below", x.leads(-1), -1);
        x.strike(4);
        Due.is("by the other AND", x.leads(0), 2 + 4 + 32);
        x.strike(5);
        Due.is("by the longer AND", x.leads(0), 2 + 4 + 8);
        x.word(0, 1, 9);
        Due.is("the AND is shorter than the word", x.leads(0), 2 + 4 + 8);
        x.word(0, 1, 7);
        Due.is("of like length a word", x.leads(0), 128);
        x.strike(0);
        Due.is("a struck one", x.leads(0), -1);
    }

    private static void leadsFarDown() {
        WordYear x = new WordYear();
        x.word(0, 15, 1);
        x.word(0, 1, 1);
        x.word(0, 2, 1);
        x.word(0, 4, 1);
        x.word(0, 8, 1);
        x.word(3, 0, 1);
        x.word(0, 48, 9);
        x.word(1, 0, 1);
        // 15 by 1, 2, 4, 8 and ORs: 7 long; not 48: 10 long.
        Due.is("leads(0)", x.leads(0), 2 + 4 + 8 + 16 + 32);
        Due.is("told(0)", x.told(0), 7);
        // 48: not 15.
        Due.is("leads(6)", x.leads(6), 1 + 128);
        x.strike(0);
        // 48: not what 1, 2, 4, 8 are together.
        Due.is("leads(6) then", x.leads(6), 2 + 4 + 8 + 16 + 32 + 128);
        Due.is("told(6) then", x.told(6), 8);
        // 1: not what 2, 4, 8 and 48 are together; likewise 2, 4 and 8.
        Due.is("leads(1) then", x.leads(1), 4 + 8 + 16 + 32 + 64 + 128);
        Due.is("those five come round", x.round(), 2 + 4 + 8 + 16 + 64);
    }

    private static void round() {
        WordYear x = new WordYear();
        Due.is("round() without words", x.round(), 0);
        x.word(0, 1, 9);
        x.word(0, 62, 9);
        x.word(0, 62, 1);
        x.word(1, 0, 1);
        x.word(0, 12, 1);
        // 1 by not word 2; word 1 by word 2; word 2 by word 1, as that is 9 and not word 0 is 10.
        Due.is("leads(0)", x.leads(0), 4 + 8);
        Due.is("leads(1)", x.leads(1), 4);
        Due.is("leads(2)", x.leads(2), 2);
        Due.is("1 and 2 come round, 0 and 4 don't", x.round(), 6);
        x.strike(1);
        Due.is("leads(2) then", x.leads(2), 1 + 8);
        Due.is("0 and 2 then", x.round(), 5);
        x.strike(3);
        Due.is("none then", x.round(), 0);
        WordYear y = new WordYear();
        y.word(0, 3, 1);
        y.word(0, 5, 1);
        y.word(0, 6, 1);
        y.word(0, 7, 1);
        y.word(3, 0, 1);
        // 7 by 3 and 5; the others can't be told.
        Due.is("leads(3)", y.leads(3), 1 + 2 + 16);
        Due.is("nothing comes round", y.round(), 0);
        WordYear z = new WordYear();
        z.word(0, 56, 1);
        z.word(0, 7, 3);
        z.word(0, 24, 5);
        z.word(0, 32, 1);
        z.word(0, 31, 1);
        z.word(1, 0, 1);
        z.word(2, 0, 1);
        z.word(3, 0, 2);
        // 7 by not 56, 56 by not 7, 24 by 56 and 31, 32 by not 31, 31 by not 32.
        Due.is("leads of all", z.leads(0) * 10000L + z.leads(1) * 100L + z.leads(2),
                (2 + 32) * 10000L + (1 + 32) * 100L + (1 + 16 + 64));
        Due.is("leads(3)", z.leads(3), 16 + 32);
        Due.is("two rounds, one that only leads there", z.round(), 1 + 2 + 8 + 16);
    }

    private static void fewest() {
        WordYear x = new WordYear();
        Due.is("fewest() without words", x.fewest(), 0);
        x.word(1, 0, 1);
        Due.is("none to tell", x.fewest(), 0);
        x.word(0, 1, 1);
        Due.is("one to tell", x.fewest(), 2);
        x.word(0, 62, 1);
        // By the NOT and either one, or by both: 3 is least.
        Due.is("the least set", x.fewest(), 3);
        x.word(0, 1, 5);
        Due.is("a second word for 1", x.fewest(), 3);
        x.strike(0);
        Due.is("no NOT: 1 and 62", x.fewest(), 6);
        x.strike(1);
        Due.is("the other word for 1", x.fewest(), 12);
        WordYear y = new WordYear();
        y.word(0, 1, 1);
        y.word(0, 2, 1);
        y.word(0, 4, 1);
        y.word(0, 3, 1);
        y.word(0, 5, 1);
        y.word(0, 6, 1);
        y.word(0, 7, 1);
        y.word(3, 0, 1);
        // 1, 2, 4 and the OR.
        Due.is("four of eight", y.fewest(), 7 + 128);
        y.word(2, 0, 1);
        // Five of any kind would be more; 3, 5, 6 with the AND tell 1, 2, 4, but not 7.
        Due.is("an AND more", y.fewest(), 7 + 128);
        y.strike(7);
        // With the AND: 3, 5, 6, 7.
        Due.is("no OR", y.fewest(), 8 + 16 + 32 + 64 + 256);
        Text.near(y, "k0(1=1)");
        Due.is("what is near doesn't matter", y.fewest(), 8 + 16 + 32 + 64 + 256);
    }
}
