/** The bounds that promises 14 to 24 name. */
final class StrikeBounds {
    private static final long NOT_IN_USE = -1000000000L;

    private StrikeBounds() {
    }

    static void ask(Document doc) {
        strike(doc);
        costs(doc);
        leastAndSpite(doc);
        vote(doc);
        order(doc);
        gap(doc);
        row(doc);
        rowRefused(doc);
        till(doc);
        kept(doc);
        back(doc);
    }

    private static void strike(Document doc) {
        doc.promise(14);
        doc.says("STRUCK: the YEAR; NONE: it is not IN USE, no such one");
        WordYear x = new WordYear();
        Outside.of("a word, without any", 0, -1, -1, x::strike);
        x.word(0, 1, 1);
        x.word(1, 0, 1);
        Outside.of("a word", 0, 1, -1, x::strike);
        Due.is("word 32 is not word 0", x.strike(32), -1);
        Due.is("the year", x.count(2), 0);
        Due.is("word 1", x.strike(1), 0);
        Due.is("word 1 again", x.strike(1), -1);
        Due.is("word 0", x.strike(0), 1);
        Due.is("none is left", x.strike(0), -1);
        Due.is("the year then", x.count(2), 2);
        for (int w = 2; w < 10; w++) {
            x.word(0, 1, 1);
        }
        Due.is("the last", x.strike(9), 2);
        Outside.of("a word of ten", 0, 9, -1, x::strike);
    }

    private static void costs(Document doc) {
        doc.promise(15);
        doc.says("COSTS of a WORD; -1000000000: it is not IN USE, no such one");
        WordYear x = new WordYear();
        Due.is("without words", x.costs(0), NOT_IN_USE);
        for (int w = 0; w < 10; w++) {
            x.word(0, w, 1);
            x.want(0, w, w, 0);
        }
        Due.is("word 0", x.costs(0), 0);
        Due.is("word 9", x.costs(9), 9 * 999);
        Outside.of("a word", 0, 9, NOT_IN_USE, x::costs);
        Due.is("word 32 is not word 0", x.costs(32), NOT_IN_USE);
        x.strike(9);
        Due.is("a struck one", x.costs(9), NOT_IN_USE);
    }

    private static void leastAndSpite(Document doc) {
        doc.promise(16);
        doc.says("THE LEAST; NONE: no WORD is IN USE");
        WordYear x = new WordYear();
        Due.is("without words", x.least(), -1);
        x.word(0, 1, 1);
        Due.is("one", x.least(), 0);
        x.strike(0);
        Due.is("one that is struck", x.least(), -1);
        doc.promise(17);
        doc.says("THE SPITE of a SORT; NONE: no WORD is IN USE, no such one");
        Due.is("one that is struck", x.spite(0), -1);
        x.word(0, 1, 1);
        for (int sort = 0; sort < 4; sort++) {
            Due.is("of sort " + sort, x.spite(sort), 1);
        }
        Outside.of("a sort", 0, 3, -1, x::spite);
        Due.is("without words", new WordYear().spite(3), -1);
    }

    private static void vote(Document doc) {
        doc.promise(18);
        doc.says("VOTES by a WAY: the WORD; NONE: none, no WORD is IN USE, nobody votes, no such WAY");
        WordYear x = Scene.of(1, 2);
        for (int way = 0; way < 4; way++) {
            Due.is("nobody votes, way " + way, x.vote(way), -1);
        }
        x.people(3, 1);
        for (int way = 0; way < 4; way++) {
            Due.is("one votes, way " + way, x.vote(way), 0);
        }
        Outside.of("a way", 0, 3, -1, x::vote);
        x.want(2, 1, 1, 0);
        x.people(2, 1);
        Due.is("none by way 3", x.vote(3), -1);
        Due.is("one by way 0", x.vote(0), 0);
        x.strike(0);
        x.strike(1);
        for (int way = 0; way < 4; way++) {
            Due.is("none is in use, way " + way, x.vote(way), -1);
        }
        x.word(0, 4, 1);
        x.people(2, 0);
        x.people(3, 0);
        Due.is("nobody any more", x.vote(0), -1);
        x.people(0, 1000);
        Due.is("1000 of sort 0", x.vote(3), 2);
    }

    private static void order(Document doc) {
        doc.promise(19);
        doc.says("THE ORDER of n WORDS, what NONE TALK together, else the WORD at place what; -1: no such ones, fewer are IN USE");
        WordYear x = new WordYear();
        Due.is("without words", x.order(1, -1), -1);
        for (int w = 0; w < 10; w++) {
            x.word(0, w, 1);
            x.want(0, w, 10 - w, 0);
        }
        // Talk now is 55; word 9 is cheapest, 999 more, then 8 with 2 * 999, and so on.
        long[] due = {55 + 999, 110 + 999 * 4, 165 + 999 * 10, 220 + 999 * 20, 275 + 999 * 35, 330 + 999 * 56};
        for (int n = 1; n <= 6; n++) {
            int some = n;
            Due.is("talk of " + n, x.order(n, -1), due[n - 1]);
            Due.is("the first of " + n, x.order(n, 0), 9);
            Due.is("the last of " + n, x.order(n, n - 1), 10 - n);
            Outside.of("a place of " + n, -1, n - 1, -1, what -> x.order(some, what));
        }
        Outside.of("n", 1, 6, -1, n -> x.order(n, -1));
        Outside.of("n", 1, 6, -1, n -> x.order(n, 0));
        for (int w = 0; w < 5; w++) {
            x.strike(w);
        }
        Due.is("five are in use", x.order(6, -1), -1);
        Due.is("all five", x.order(5, 4), 5);
        x.strike(9);
        Due.is("four are in use", x.order(5, -1), -1);
    }

    private static void gap(Document doc) {
        doc.promise(20);
        doc.says("GAP of n; -1: no such one, fewer are IN USE");
        WordYear x = new WordYear();
        Due.is("without words", x.gap(1), -1);
        for (int w = 0; w < 10; w++) {
            x.word(0, w, 1);
            x.want(0, w, w, 0);
        }
        Outside.of("n", 1, 6, -1, x::gap);
        for (int n = 1; n <= 6; n++) {
            Due.is("gap of " + n, x.gap(n), 0);
        }
        for (int w = 0; w < 5; w++) {
            x.strike(w);
        }
        Due.is("five are in use, six", x.gap(6), -1);
        Due.is("five are in use, five", x.gap(5), 0);
        x.strike(9);
        Due.is("four are in use, five", x.gap(5), -1);
    }

    private static void row(Document doc) {
        doc.promise(21);
        doc.says("A ROW by the first n bytes of the tape (1 to 10 WORDS; empty then), what 0 TALK together, 1 the first place behind "
                + "which some MUST can't be (NONE: none)");
        WordYear x = Scene.ten();
        x.want(0, 1, 2, 1);
        int[] ten = {9, 0, 8, 1, 7, 2, 6, 3, 5, 4};
        Due.is("ten words", Text.row(x, 0, ten), 9 * 2 + 2000);
        Due.is("the tape is empty", x.count(5), 0);
        Due.is("the last place", Text.row(x, 1, ten), 9);
        Due.is("one word", Text.row(x, 0, 9), 2);
        Due.is("no place", Text.row(x, 1, 9), -1);
        x.want(0, 2, 1, 5);
        Due.is("the first place", Text.row(x, 1, 0), 0);
        Text.feedBytes(x, 3, 4);
        Due.is("the first byte alone counts", x.row(1, 0), 1002);
        Due.is("the tape is empty then", x.count(5), 0);
        Due.is("none is struck", x.count(1), 1023);
        Due.is("the year is as before", x.count(2), 0);
    }

    private static void rowRefused(Document doc) {
        doc.says("-2: a WORD that is not IN USE then, one twice");
        WordYear x = Scene.of(1, 2, 4);
        int[][] rows = {{3}, {255}, {128}, {0, 3}, {0, 0}, {2, 1, 2}, {0, 1, 2, 0}, {0, 1, 2, 3}, {32}, {10}};
        for (int[] row : rows) {
            for (int what = 0; what < 2; what++) {
                Due.is("a row of " + row.length + ", what " + what, Text.row(x, what, row), -2);
                Due.is("the tape is empty", x.count(5), 0);
            }
        }
        Due.is("all three", Text.row(x, 1, 2, 0, 1), -1);
        x.strike(1);
        Due.is("a struck one", Text.row(x, 0, 1), -2);
        Due.is("a struck one behind another", Text.row(x, 0, 0, 1), -2);
        Due.is("those in use", Text.row(x, 0, 2, 0), 0);
        doc.says("NONE also: no such ones, it has not so many (the tape stays)");
        Due.is("no bytes", x.row(1, 0), -1);
        x.feed(0x00020100, 0, 0, 0, 0);
        Outside.of("n", 1, 10, -1, n -> x.row(n, 0));
        Outside.of("what", 0, 1, -1, what -> x.row(1, what));
        Due.is("the tape stays", x.count(5), 20);
        Due.is("its first two", x.row(2, 0), 0);
        Due.is("no bytes again", x.row(1, 1), -1);
    }

    private static void till(Document doc) {
        doc.promise(22);
        doc.says("TILL WHEN");
        WordYear x = new WordYear();
        Due.is("without words", x.till(), 0);
        for (int w = 0; w < 10; w++) {
            x.word(0, w, 1);
            x.want(0, w, w, 0);
        }
        Due.is("all ten", x.till(), 10);
        for (int w = 9; w >= 0; w--) {
            x.want(1, w, 0, 1);
            Due.is("not word " + w, x.till(), w);
        }
    }

    private static void kept(Document doc) {
        doc.promise(23);
        doc.says("KEPT of n WORDS, what 0 the TONGUE, 1 TALK; -1: no such ones");
        WordYear x = new WordYear();
        Outside.of("n without words", 0, 0, -1, n -> x.kept(n, 0));
        x.want(0, 3, 1, 0);
        Due.is("the empty tongue", x.kept(0, 0), 0);
        Due.is("its talk", x.kept(0, 1), 1000);
        for (int w = 0; w < 10; w++) {
            x.word(0, w, 1);
            int size = w + 1;
            Outside.of("n of " + size, 0, size, -1, n -> x.kept(n, 1));
        }
        Due.is("the one", x.kept(1, 0), 8);
        Due.is("its talk", x.kept(1, 1), 1);
        Due.is("all ten", x.kept(10, 0), 1023);
        Due.is("their talk", x.kept(10, 1), 1);
        Outside.of("what", 0, 1, -1, what -> x.kept(1, what));
    }

    private static void back(Document doc) {
        doc.promise(24);
        doc.says("BACK, what 0 the WORD that is taken back, 1, 2 those that go, 3 TALK then");
        WordYear x = Scene.of(1, 2, 4);
        x.want(0, 1, 5, 0);
        x.strike(0);
        int[] due = {0, 1, 2, 5};
        for (int what = 0; what < 4; what++) {
            Due.is("back(" + what + ")", x.back(what), due[what]);
        }
        doc.says("-1: none is STRUCK, fewer than two are IN USE, no such what");
        Outside.of("what", 0, 3, -1, x::back);
        WordYear none = Scene.of(1, 2, 4);
        WordYear two = Scene.of(1, 2);
        two.strike(0);
        WordYear all = Scene.of(1, 2, 4);
        for (int w = 0; w < 3; w++) {
            all.strike(w);
        }
        for (int what = 0; what < 4; what++) {
            Due.is("none is struck", none.back(what), -1);
            Due.is("one is in use", two.back(what), -1);
            Due.is("none is in use", all.back(what), -1);
            Due.is("none is there", new WordYear().back(what), -1);
        }
        two.word(0, 4, 1);
        Due.is("two are in use", two.back(3), 0);
    }
}
