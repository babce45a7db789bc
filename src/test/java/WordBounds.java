/** The bounds that promises 25 to 33 name. */
final class WordBounds {
    private WordBounds() {
    }

    static void ask(Document doc) {
        told(doc);
        leads(doc);
        roundAndFewest(doc);
        law(doc);
        lawRefused(doc);
        lawIs(doc);
        madeUp(doc);
        check(doc);
        checkRefused(doc);
        count(doc);
        countWordsAndPeople(doc);
    }

    private static WordYear tenKinds() {
        WordYear x = new WordYear();
        x.word(0, 1, 2);
        x.word(1, 0, 1);
        x.word(2, 0, 1);
        x.word(3, 0, 1);
        for (int w = 4; w < 9; w++) {
            x.word(0, 1 << w - 3, 1);
        }
        x.word(0, 62, 9);
        return x;
    }

    private static void told(Document doc) {
        doc.promise(25);
        doc.says("TOLD of a WORD; -2: it can't be; NONE: it is not IN USE, of another KIND, no such one");
        WordYear x = tenKinds();
        // Five things and their four ORs are 9 long, like word 9; not them 10.
        Due.is("word 0", x.told(0), 10);
        Due.is("word 9", x.told(9), 3);
        Due.is("a NOT", x.told(1), -1);
        Due.is("an AND", x.told(2), -1);
        Due.is("an OR", x.told(3), -1);
        Outside.of("a word", 0, 9, -1, x::told);
        x.strike(9);
        Due.is("a struck one", x.told(9), -1);
        x.strike(1);
        Due.is("it can't be", x.told(0), -2);
        Due.is("without words", new WordYear().told(0), -1);
    }

    private static void leads(Document doc) {
        doc.promise(26);
        doc.says("To which WORDS a WORD leads in the DICTIONARY (bits; 0: it can't be TOLD); NONE: it is not IN USE, of another KIND, no "
                + "such one");
        WordYear x = tenKinds();
        Due.is("word 0: not word 9", x.leads(0), 2 + 512);
        Due.is("word 9: not word 0", x.leads(9), 1 + 2);
        Due.is("a NOT", x.leads(1), -1);
        Due.is("an AND", x.leads(2), -1);
        Due.is("an OR", x.leads(3), -1);
        Outside.of("a word", 0, 9, -1, x::leads);
        x.strike(9);
        Due.is("a struck one", x.leads(9), -1);
        x.strike(1);
        Due.is("it can't be told", x.leads(0), 0);
        Due.is("without words", new WordYear().leads(0), -1);
    }

    private static void roundAndFewest(Document doc) {
        doc.promise(27);
        doc.says("ROUND, as bits");
        WordYear x = tenKinds();
        // Each of 0 and 9 leads to the other; 4 to 8 are each not what all others are.
        Due.is("seven of ten", x.round(), 1 + 0x1f0 + 512);
        x.strike(1);
        Due.is("without the NOT", x.round(), 0);
        Due.is("without words", new WordYear().round(), 0);
        Due.is("one word", Scene.of(0).round(), 0);
        Due.is("two alike", Scene.of(0, 0).round(), 3);
        WordYear last = new WordYear();
        for (int w = 0; w < 10; w++) {
            last.word(0, Math.min(w, 8), 1);
        }
        Due.is("the last two alike", last.round(), 256 + 512);
        doc.promise(28);
        doc.says("FEWEST, as bits");
        Due.is("without words", new WordYear().fewest(), 0);
        Due.is("one word", Scene.of(63).fewest(), 1);
        Due.is("the last of two alike can be said", last.fewest(), 511);
        for (int w = 0; w < 10; w++) {
            last.strike(w);
        }
        Due.is("none is in use", last.fewest(), 0);
    }

    private static void law(Document doc) {
        doc.promise(29);
        doc.says("LAW i by the first n bytes of the tape (1 to 60; empty then), in place of the one before: its MEANING");
        WordYear x = Scene.of(7, 28, 0, 63);
        for (int i = 0; i < 4; i++) {
            Due.is("law " + i + " of a byte", Text.law(x, i, "a"), 7);
            Due.is("the tape is empty", x.count(5), 0);
            Due.is("in its place 60 bytes", Text.law(x, i, "a+".repeat(29) + "bb"), 31);
            Due.is("its meaning", x.lawIs(i, 0), 31);
        }
        Due.is("no thing", Text.law(x, 0, "c"), 0);
        Due.is("no thing is told, too", x.lawIs(0, 0), 0);
        Due.is("all things", Text.law(x, 0, "d"), 63);
        Text.feed(x, "ab");
        Due.is("the first byte", x.law(1, 1), 7);
        Due.is("all is used up", x.count(5), 0);
        Text.feed(x, "a".repeat(19) + "b");
        Due.is("all 20 bytes of 20", x.law(2, 20), 4);
        Text.feed(x, "a".repeat(59) + "+");
        Due.is("59 bytes of 60", x.law(2, 59), 7);
        Text.feed(x, "a".repeat(59) + "+");
        Due.is("60 bytes of 60", x.law(2, 60), -1060);
    }

    private static void lawRefused(Document doc) {
        doc.says("a FAULT likewise");
        WordYear x = Scene.of(7, 28);
        Text.law(x, 3, "a+b");
        x.word(1, 0, 4);
        String[] faults = {"+", "a+", "d", "abd", "-------a", "a((((((((", "a?", "c"};
        int[] due = {-1000, -1002, -2000, -2002, -5006, -5007, -1001, -2000};
        for (int i = 0; i < faults.length; i++) {
            Due.is(faults[i], Text.law(x, 3, faults[i]), due[i]);
            Due.is("the tape behind it", x.count(5), 0);
            Due.is("the one before stays", x.lawIs(3, 0), 31);
            Due.is("its length", x.lawIs(3, 1), 2);
            Due.is("a fault in a new one", Text.law(x, 0, faults[i]), due[i]);
            Due.is("it is not told", x.lawIs(0, 0), -1);
            Due.is("told laws", x.count(7), 8);
        }
        doc.says("NONE: no such ones, it has not so many (the tape stays)");
        Due.is("no bytes", x.law(0, 1), -1);
        Text.feed(x, "b");
        Outside.of("a law", 0, 3, -1, i -> x.law(i, 1));
        Outside.of("n of 20", 1, 20, -1, n -> x.law(0, n));
        for (int i = 0; i < 14; i++) {
            x.feed(0, 0, 0, 0, 0);
        }
        Outside.of("n of 300", 1, 60, -1, n -> x.law(0, n));
        Due.is("the tape stays", x.count(5), 300);
        Due.is("told laws", x.count(7), 8);
        Due.is("the first byte", x.law(0, 1), 28);
    }

    private static void lawIs(Document doc) {
        doc.promise(30);
        doc.says("Of LAW i, what 0 the MEANING, 1 the LENGTH, 2 STRUCK in it, 3 ANEW (-2: it can't be)");
        WordYear x = new WordYear();
        x.word(0, 7, 3);
        x.word(0, 28, 4);
        x.word(0, 4, 9);
        for (int i = 0; i < 4; i++) {
            Text.law(x, i, "ab");
            int[] due = {4, 7, 0, 9};
            for (int what = 0; what < 4; what++) {
                Due.is("lawIs(" + i + ", " + what + ")", x.lawIs(i, what), due[what]);
            }
        }
        for (int kind = 1; kind <= 3; kind++) {
            x.word(kind, 0, 1);
        }
        Text.law(x, 1, "-aa+b");
        Text.law(x, 1, "b");
        Text.law(x, 2, "bb+-b+b");
        Due.is("a shorter one in a longer one's place", x.lawIs(1, 1), 4);
        Due.is("a longer one behind it", x.lawIs(2, 1), 16 + 1 + 1 + 2);
        for (int joint = 3; joint < 6; joint++) {
            x.strike(joint);
        }
        x.strike(2);
        x.strike(1);
        Due.is("struck in it", x.lawIs(3, 2), 2);
        Due.is("it can't be", x.lawIs(3, 3), -2);
        doc.says("NONE: it is not told, no such ones");
        Outside.of("a law", 0, 3, -1, i -> x.lawIs(i, 0));
        Outside.of("what", 0, 3, -1, what -> x.lawIs(0, what));
        WordYear y = Scene.of(1);
        for (int what = 0; what < 4; what++) {
            Due.is("not told", y.lawIs(3, what), -1);
        }
        Text.law(y, 3, "a");
        Due.is("told", y.lawIs(3, 0), 1);
        Due.is("not told beside it", y.lawIs(2, 0), -1);
    }

    private static void madeUp(Document doc) {
        doc.promise(31);
        doc.says("MADE UP of a LENGTH (1 to 9), what 0 the MEANING, 1 how much less; -1: no such ones");
        WordYear x = new WordYear();
        x.want(0, 63, 2, 0);
        for (int length = 1; length <= 9; length++) {
            Due.is("the meaning, " + length, x.madeUp(length, 0), 63);
            Due.is("how much less, " + length, x.madeUp(length, 1), 2 * (1000 - length));
        }
        Outside.of("a length", 1, 9, -1, n -> x.madeUp(n, 0));
        Outside.of("what", 0, 1, -1, what -> x.madeUp(1, what));
        x.often(0, 0);
        Due.is("no less", x.madeUp(1, 1), 0);
        Due.is("by no thing", x.madeUp(1, 0), 0);
    }

    private static void check(Document doc) {
        doc.promise(32);
        doc.says("CHECK of a TONGUE by the first n numbers of the tape (four bytes each; empty then): NONE: right; else the place of the "
                + "first number that is not so");
        WordYear x = Scene.of(0, 2);
        Due.is("no numbers", x.check(3, 0), -1);
        x.feed(1, -2, 1, -2, 9);
        Due.is("four of five", x.check(3, 4), -1);
        Due.is("the tape is empty", x.count(5), 0);
        x.feed(1, -2, 1, -2, 9);
        Due.is("five of five", x.check(3, 5), 4);
        Due.is("the tape is empty then, too", x.count(5), 0);
        x.feed(2, 0, 0, 0, 0);
        Due.is("the first", x.check(3, 1), 0);
        x.feed(0, 0, 0, 0, 0);
        Due.is("none of five", x.check(3, 0), -1);
        Due.is("that empties it, too", x.count(5), 0);
        int[] none = new int[64];
        java.util.Arrays.fill(none, -2);
        Due.is("64 by the empty tongue", Text.check(x, 0, none), -1);
        none[63] = 0;
        Due.is("the last of 64", Text.check(x, 0, none), 63);
    }

    private static void checkRefused(Document doc) {
        doc.says("-2: no such one, n above 64, it has not so many (the tape stays)");
        WordYear x = Scene.of(0, 2);
        Due.is("no numbers are there", x.check(3, 1), -2);
        x.feed(1, -2, 1, -2, 9);
        Outside.of("a tongue", 0, 3, -2, n -> x.check(n, 1));
        Outside.of("a tongue, no numbers", 0, 3, -2, n -> x.check(n, 0));
        Outside.of("n of five", 0, 5, -2, n -> x.check(3, n));
        for (int i = 0; i < 14; i++) {
            x.feed(0, 0, 0, 0, 0);
        }
        Outside.of("n of 75", 0, 64, -2, n -> x.check(3, n));
        Due.is("the tape stays", x.count(5), 300);
        Due.is("the first four", x.check(3, 4), -1);
    }

    private static void count(Document doc) {
        doc.promise(33);
        doc.says("0 WORDS, 1 those IN USE (bits), 2 the YEAR, 3 WANTS, 4 CLAUSES of NEAR, 5 bytes of the tape, 6 SILENCE, 7 told LAWS "
                + "(bits)");
        WordYear x = Scene.ten();
        for (int i = 0; i < 24; i++) {
            x.want(0, 0, 0, 0);
        }
        for (int i = 0; i < 4; i++) {
            Text.law(x, i, "a");
        }
        Text.near(x, "k1(1=1);".repeat(11) + "k1(1=1)");
        x.silence(5000);
        x.strike(9);
        for (int n = 0; n < 15; n++) {
            x.feed(0, 0, 0, 0, 0);
        }
        int[] most = {10, 511, 1, 24, 12, 300, 5000, 15};
        int[] least = {0, 0, 0, 0, 0, 0, 1000, 0};
        WordYear empty = new WordYear();
        for (int what = 0; what < 8; what++) {
            Due.is("the most, " + what, x.count(what), most[what]);
            Due.is("at first, " + what, empty.count(what), least[what]);
        }
        Text.law(empty, 0, "a");
        Due.is("a law with a fault is not told", empty.count(7), 0);
        for (int w = 0; w < 9; w++) {
            x.strike(w);
        }
        Due.is("none is in use", x.count(1), 0);
        Due.is("the year then", x.count(2), 10);
        Due.is("ten words as before", x.count(0), 10);
    }

    private static void countWordsAndPeople(Document doc) {
        doc.says("10 + w the YEAR in which WORD w was STRUCK (NONE also: IN USE), 20 + s people of SORT s");
        WordYear x = Scene.ten();
        for (int w = 0; w < 10; w++) {
            Due.is("in use", x.count(10 + w), -1);
        }
        for (int year = 0; year < 10; year++) {
            x.strike(9 - year);
            Due.is("word " + (9 - year), x.count(19 - year), year);
        }
        Due.is("the last stays", x.count(10), 9);
        Due.is("the first stays", x.count(19), 0);
        for (int sort = 0; sort < 4; sort++) {
            x.people(sort, 1000 - sort);
        }
        for (int sort = 0; sort < 4; sort++) {
            Due.is("sort " + sort, x.count(20 + sort), 1000 - sort);
        }
        doc.says("NONE for others");
        Due.is("8", x.count(8), -1);
        Due.is("9", x.count(9), -1);
        Outside.of("what", 0, 23, -1, x::count);
        WordYear y = Scene.of(1);
        y.strike(0);
        for (int w = 1; w < 10; w++) {
            Due.is("word " + w + " is not there", y.count(10 + w), -1);
        }
    }
}
