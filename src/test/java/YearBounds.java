/** The bounds that the part "==== 2." of "Terms" names: people, wants, talk, who is struck, what follows. */
final class YearBounds {
    private YearBounds() {
    }

    static void ask(Document doc) {
        doc.promise(Document.TERMS);
        people(doc);
        wants(doc);
        talk(doc);
        struck(doc);
        least(doc);
        spite(doc);
        rows(doc);
        ways(doc);
        moreThanHalf(doc);
        order(doc);
        rowAndTill(doc);
        kept(doc);
        back(doc);
    }

    private static void people(Document doc) {
        doc.says("SORTS 0 to 3 of people: how many (0 to 1000; 0 at first)");
        WordYear x = new WordYear();
        for (int sort = 0; sort < 4; sort++) {
            Due.is("at first", x.count(20 + sort), 0);
            Due.is("1001", x.people(sort, 1001), false);
            Due.is("-1", x.people(sort, -1), false);
            Due.is("as at first", x.count(20 + sort), 0);
            Due.is("1000", x.people(sort, 1000), true);
            Due.is("1000 then", x.count(20 + sort), 1000);
            Due.is("0", x.people(sort, 0), true);
            Due.is("0 then", x.count(20 + sort), 0);
        }
        Due.is("sort 4", x.people(4, 1), false);
        Due.is("sort -1", x.people(-1, 1), false);
    }

    private static void wants(Document doc) {
        doc.says("WANTS 0 to 23: of a SORT, a MEANING, how OFTEN in a year (0 to 1000)");
        WordYear x = new WordYear();
        for (int i = 0; i < 24; i++) {
            Due.is("want " + i, x.want(i % 4, i % 2 * 63, i % 3 * 500, 0), i);
        }
        Due.is("want 24", x.want(0, 0, 1, 0), -1);
        Due.is("often of want 23", x.often(23, 1), true);
        Due.is("often of want 24", x.often(24, 1), false);
        doc.says("a MUST (0: none; else SAYABLE for no more than so much, 1 to 2000)");
        WordYear y = new WordYear();
        y.word(0, 1, 1);
        y.word(0, 2, 2);
        y.word(0, 3, 9);
        Text.near(y, "k1000(a=4&c=3)");
        int[] musts = {1, 2, 1, 9, 8, 1009, 1008, 2000, 0, 2000};
        int[] meanings = {1, 2, 2, 3, 3, 4, 4, 4, 8, 8};
        for (int i = 0; i < musts.length; i++) {
            y.want(0, meanings[i], 1, musts[i]);
        }
        // For 1, 2, 9, 1009 and never: 2 for more than 1, 3 for more than 8, 4 for more than 1008, 8 never.
        Due.is("those that can't be", y.musts(7), 4 + 16 + 64 + 512);
        Due.is("a must below", y.want(0, 1, 1, -1), -1);
        Due.is("a must above", y.want(0, 1, 1, 2001), -1);
    }

    private static void talk(Document doc) {
        doc.says("over WANTS OFTEN times what it is SAYABLE for, at most SILENCE (0 to 5000; 1000 at first: that, too, for "
                + "NEVER)");
        WordYear x = new WordYear();
        x.word(0, 1, 9);
        Text.near(x, "k1000(a=2)");
        x.want(0, 1, 10, 0);
        x.want(1, 2, 10, 0);
        x.want(2, 2, 0, 0);
        WordYear y = new WordYear();
        y.want(0, 0, 7, 0);
        int[] silences = {1000, 0, 1, 8, 9, 10, 1008, 1009, 1010, 5000};
        for (int silence : silences) {
            x.silence(silence);
            y.silence(silence);
            Due.is("9, silence " + silence, x.talk(1, 0), 10 * Math.min(9, silence));
            Due.is("1009, silence " + silence, x.talk(1, 1), 10 * Math.min(1009, silence));
            Due.is("never often, silence " + silence, x.talk(1, 2), 0);
            Due.is("never, silence " + silence, y.talk(0, 0), 7 * silence);
        }
        Due.is("1000 at first", new WordYear().count(6), 1000);
        for (int i = 1; i < 24; i++) {
            y.want(i % 4, i, 1000, 0);
        }
        y.often(0, 1000);
        Due.is("the most talk of all", y.talk(0, -1), 120000000);
        Due.is("the most talk of a sort", y.talk(0, 1), 30000000);
    }

    private static void struck(Document doc) {
        doc.says("STRUCK: a WORD IN USE, in the YEAR that is NOW (0 at first); then it is the next YEAR");
        WordYear x = Scene.ten();
        Due.is("the first year", x.count(2), 0);
        for (int year = 0; year < 10; year++) {
            int w = (year * 3 + 9) % 10;
            Due.is("in year " + year, x.strike(w), year);
            Due.is("again", x.strike(w), -1);
            Due.is("the next year", x.count(2), year + 1);
            Due.is("no longer in use", x.count(1) >> w & 1, 0);
        }
        Due.is("none is left", x.count(1), 0);
    }

    private static void least(Document doc) {
        doc.says("COSTS of a WORD IN USE: TALK without it less TALK now. THE LEAST: the WORD IN USE of least COSTS; of like "
                + "ones the lowest");
        WordYear x = Scene.ten();
        Due.is("all cost nothing", x.least(), 0);
        x.strike(0);
        Due.is("the lowest in use", x.least(), 1);
        WordYear y = Scene.of(0, 1, 2, 3, 4, 5, 6, 7, 8, 9);
        for (int w = 0; w < 10; w++) {
            y.want(0, w, w == 9 ? 1 : 2, 0);
        }
        Due.is("the last", y.least(), 9);
        y.often(0, 1);
        Due.is("the first, as cheap", y.least(), 0);
        Due.is("its costs", y.costs(0), 999);
        y.silence(1);
        Due.is("as dear as silence", y.costs(0), 0);
        y.silence(0);
        Due.is("nothing costs anything", y.costs(9), 0);
        WordYear z = new WordYear();
        z.word(0, 1, 9);
        z.word(0, 1, 1);
        z.want(0, 4, 1, 0);
        Text.near(z, "k[9-l]*10(c=1)");
        Due.is("less than nothing", z.costs(1), 9 - 81);
        Due.is("that is the least", z.least(), 1);
    }

    private static void spite(Document doc) {
        doc.says("THE SPITE of a SORT: that by which TALK of all others grows most, less three times what its own grows by; of "
                + "like ones the lowest");
        WordYear x = Scene.of(1, 2, 4);
        x.silence(101);
        Due.is("all alike", x.spite(3), 0);
        x.want(0, 2, 1, 0);
        x.want(1, 2, 3, 0);
        Due.is("300 less three times 100 is as nothing", x.spite(0), 0);
        x.want(2, 2, 1, 0);
        Due.is("400 less 300", x.spite(0), 1);
        x.want(3, 1, 1, 0);
        Due.is("100 is as much: the lowest", x.spite(0), 0);
        x.often(0, 2);
        x.want(0, 1, 1, 0);
        x.want(0, 4, 1, 0);
        // Without 0: 100 - 300; without 1: 400 - 600; without 2: -300.
        Due.is("all less than nothing, of like ones the lowest", x.spite(0), 0);
        x.strike(0);
        Due.is("the rest", x.spite(0), 1);
        x.strike(1);
        Due.is("the last", x.spite(0), 2);
    }

    private static void rows(Document doc) {
        doc.says("its row of WORDS IN USE by what its own TALK grows by (least first; of like ones the lowest)");
        WordYear x = Scene.four();
        Scene.row(x, 2, 1, 3, 1, 0, 2);
        Due.is("what grows least is first", x.vote(0), 3);
        x.strike(3);
        Due.is("in use", x.vote(0), 1);
        x.want(2, 1, 0, 0);
        x.often(1, 3);
        Due.is("0 and 1 grow alike", x.vote(0), 0);
        doc.says("each SORT votes with as many as it has");
        WordYear y = Scene.four();
        Scene.row(y, 0, 1000, 3, 2, 1, 0);
        Scene.row(y, 1, 999, 2, 1, 3, 0);
        Due.is("1000 against 999", y.vote(0), 3);
        y.people(3, 1);
        Due.is("one who wants nothing has a row, too", y.vote(0), 3);
        y.people(0, 0);
        Due.is("none of sort 0", y.vote(0), 2);
        y.people(1, 0);
        Due.is("the one who wants nothing", y.vote(0), 0);
    }

    private static void ways(Document doc) {
        doc.says("0 the WORD that is first with most");
        WordYear x = Scene.four();
        Scene.row(x, 0, 4, 3, 2, 1, 0);
        Scene.row(x, 1, 2, 2, 1, 3, 0);
        Scene.row(x, 2, 2, 1, 2, 3, 0);
        Due.is("4, 2 and 2", x.vote(0), 3);
        doc.says("1 of the two that are first with most (as 0; the second likewise, of the rest) that which stands ahead of "
                + "the other with more (as many: the first)");
        Due.is("3 and 1, 4 with 4: the first, though 1 is lower", x.vote(1), 3);
        x.people(0, 3);
        Due.is("3 with 4", x.vote(1), 1);
        x.people(0, 5);
        Due.is("5 with 4", x.vote(1), 3);
        WordYear one = Scene.of(7);
        one.people(0, 1);
        Due.is("there is no second", one.vote(1), 0);
        WordYear all = Scene.four();
        Scene.row(all, 0, 9, 2, 3, 1, 0);
        Due.is("the second is first with nobody", all.vote(1), 2);
        doc.says("2 POINTS: for each voter how many WORDS stand behind it: most");
        // Points of 3: 15 + 2 + 2, of 2: 10 + 6 + 4, of 1: 5 + 4 + 6.
        Due.is("20 points against 19", x.vote(2), 2);
        x.people(0, 6);
        // 22 and 22.
        Due.is("of like ones 2", x.vote(2), 2);
        x.people(0, 7);
        Due.is("25 against 24", x.vote(2), 3);
        Due.is("one word has no points", one.vote(2), 0);
        doc.says("Of like ones always the lowest");
        WordYear y = Scene.four();
        Scene.row(y, 0, 3, 2, 1, 0, 3);
        Scene.row(y, 1, 3, 1, 2, 3, 0);
        Due.is("way 0", y.vote(0), 1);
        Due.is("way 1", y.vote(1), 1);
        Due.is("way 2", y.vote(2), 1);
    }

    private static void moreThanHalf(Document doc) {
        doc.says("3 the WORD that stands ahead of each other one with more than half of all voters (none: NONE)");
        WordYear x = Scene.four();
        Scene.row(x, 0, 2, 1, 0, 2, 3);
        Scene.row(x, 1, 2, 0, 1, 2, 3);
        Due.is("just a half", x.vote(3), -1);
        x.people(0, 3);
        Due.is("3 of 5", x.vote(3), 1);
        x.people(3, 1);
        Due.is("3 of 6", x.vote(3), -1);
        x.people(0, 1000);
        x.people(1, 999);
        x.people(3, 0);
        Due.is("1000 of 1999", x.vote(3), 1);
        x.people(1, 1000);
        Due.is("1000 of 2000", x.vote(3), -1);
        WordYear y = Scene.four();
        Scene.row(y, 0, 1, 0, 1, 2, 3);
        Scene.row(y, 1, 1, 1, 2, 0, 3);
        Scene.row(y, 2, 1, 2, 0, 1, 3);
        Due.is("each behind another", y.vote(3), -1);
        WordYear one = Scene.of(7);
        one.people(3, 1);
        Due.is("one word", one.vote(3), 0);
    }

    private static void order(Document doc) {
        doc.says("THE ORDER of n WORDS (1 to 6), one STRUCK in each of the next YEARS: by which TALK of all n TONGUES behind each "
                + "is least together; of like ones the least row");
        WordYear x = Scene.ten();
        x.want(0, 1, 1, 0);
        Due.is("none", x.order(0, -1), -1);
        for (int n = 1; n <= 6; n++) {
            Due.is("of " + n, x.order(n, -1), n);
            for (int place = 0; place < n; place++) {
                Due.is("of " + n + " at " + place, x.order(n, place), place);
            }
        }
        Due.is("of seven", x.order(7, -1), -1);
        WordYear y = Scene.pair();
        // Behind 0 or 2 51, behind 1 150, behind 0 and 1 150, behind 0 and 2 1001, behind all 1100.
        Due.is("of two", y.order(2, -1), 51 + 150);
        Due.is("the first of two", y.order(2, 0), 0);
        Due.is("the second of two", y.order(2, 1), 1);
        Due.is("all three", y.order(3, -1), 51 + 150 + 1100);
        Due.is("the last of all", y.order(3, 2), 2);
        Due.is("four of three", y.order(4, -1), -1);
        doc.says("GAP: what it is more if always THE LEAST is STRUCK");
        Due.is("nothing", y.gap(3), 0);
        WordYear z = new WordYear();
        z.silence(100);
        z.word(0, 1, 5);
        z.word(0, 62, 4);
        z.word(1, 0, 1);
        z.want(0, 1, 10, 0);
        // The least is 0, as cheap as 1 and 2; the other two are then struck for 1000.
        Due.is("gap of one", z.gap(1), 0);
        Due.is("gap of two", z.gap(2), 950);
        Due.is("gap of all", z.gap(3), 950);
        Due.is("gap of none", z.gap(0), -1);
        Due.is("gap of more", z.gap(4), -1);
        Due.is("gap of six", x.gap(6), 0);
        Due.is("gap of seven", x.gap(7), -1);
    }

    private static void rowAndTill(Document doc) {
        doc.says("the first place behind which some MUST can't be (NONE: none)");
        WordYear x = Scene.ten();
        x.want(0, 1, 1, 1);
        Due.is("the last of ten", Text.row(x, 1, 9, 8, 7, 6, 5, 4, 3, 2, 1, 0), 9);
        Due.is("none of nine", Text.row(x, 1, 8, 9, 7, 6, 5, 4, 3, 2, 1), -1);
        Due.is("talk of all ten", Text.row(x, 0, 0, 1, 2, 3, 4, 5, 6, 7, 8, 9), 9 + 1000);
        x.want(1, 2, 0, 2000);
        Due.is("the first", Text.row(x, 1, 5), 0);
        Due.is("the first of many", Text.row(x, 1, 5, 6, 7), 0);
        doc.says("TILL WHEN: how many WORDS, always THE LEAST, can be STRUCK one behind the other so that behind each all MUSTS "
                + "can be");
        Due.is("none, as one can't be now", x.till(), 0);
        WordYear y = Scene.ten();
        Due.is("all without musts", y.till(), 10);
        y.want(0, 1, 1, 1);
        Due.is("all but one", y.till(), 9);
        Due.is("without words", new WordYear().till(), 0);
        WordYear z = Scene.of(1, 2);
        z.want(0, 1, 2, 0);
        z.want(0, 2, 1, 0);
        Due.is("the last is word 0", z.till(), 2);
        z.want(0, 1, 0, 1);
        Due.is("word 0 must be", z.till(), 1);
        z.want(0, 2, 0, 1);
        Due.is("both must be", z.till(), 0);
    }

    private static void kept(Document doc) {
        doc.says("KEPT: of all TONGUES of n of all WORDS (0 to all; STRUCK ones, too) that of least TALK; of like ones the least "
                + "set");
        WordYear x = new WordYear();
        Due.is("none of none", x.kept(0, 0), 0);
        Due.is("its talk", x.kept(0, 1), 0);
        Due.is("one of none", x.kept(1, 0), -1);
        WordYear y = Scene.ten();
        y.want(0, 1, 3, 0);
        Due.is("none", y.kept(0, 0), 0);
        Due.is("talk of none", y.kept(0, 1), 3000);
        for (int n = 1; n <= 10; n++) {
            Due.is("the least set of " + n, y.kept(n, 0), (1 << n) - 1);
            Due.is("talk of " + n, y.kept(n, 1), 3);
        }
        Due.is("eleven", y.kept(11, 0), -1);
        Due.is("-1", y.kept(-1, 0), -1);
        for (int w = 0; w < 10; w++) {
            y.strike(w);
        }
        Due.is("struck ones, too", y.kept(2, 0), 3);
        Due.is("all of them", y.kept(10, 0), 1023);
        WordYear z = Scene.of(0, 1, 2, 3, 4, 5, 6, 7, 8, 9);
        z.want(0, 9, 1, 0);
        Due.is("the one that is wanted", z.kept(1, 0), 512);
        Due.is("with the lowest", z.kept(2, 0), 513);
    }

    private static void back(WordYear x, int taken, int lower, int upper, int talk) {
        Due.is("taken back", x.back(0), taken);
        Due.is("the lower one that goes", x.back(1), lower);
        Due.is("the other", x.back(2), upper);
        Due.is("talk", x.back(3), talk);
    }

    private static void back(Document doc) {
        doc.says("BACK: one STRUCK one is taken back, two that are IN USE go: by which TALK is least; of like ones the least row "
                + "(taken back, the lower one that goes, the other)");
        WordYear x = Scene.of(1, 2, 4);
        x.strike(2);
        x.want(0, 1, 1, 0);
        // Nothing is taken back that is in use, though that would be better.
        back(x, 2, 0, 1, 1000);
        WordYear y = Scene.ten();
        y.strike(3);
        y.strike(1);
        back(y, 1, 0, 2, 0);
        WordYear z = Scene.of(0, 1, 2, 3, 4, 5, 6, 7, 8, 9);
        for (int w = 0; w < 10; w++) {
            if (w != 7 && w != 8) {
                z.strike(w);
            }
        }
        back(z, 0, 7, 8, 0);
        z.want(0, 9, 1, 0);
        back(z, 9, 7, 8, 1);
        WordYear v = Scene.of(0, 1, 2, 3, 4, 5, 6, 7, 8, 9);
        v.strike(0);
        for (int w = 1; w < 8; w++) {
            v.want(0, w, 1, 0);
        }
        back(v, 0, 8, 9, 7);
        v.want(0, 8, 1, 0);
        back(v, 0, 1, 9, 7 + 1000);
    }
}
