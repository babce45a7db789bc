/** The bounds that promises 1 to 13 name. */
final class SayBounds {
    private SayBounds() {
    }

    static void ask(Document doc) {
        newObject(doc);
        word(doc);
        people(doc);
        want(doc);
        often(doc);
        silence(doc);
        feed(doc);
        near(doc);
        nearRefused(doc);
        brief(doc);
        how(doc);
        sayable(doc);
        talk(doc);
        musts(doc);
    }

    private static void newObject(Document doc) {
        doc.promise(1);
        doc.says("YEAR 0; no WORDS, WANTS, LAWS; SILENCE 1000");
        WordYear x = new WordYear();
        Due.is("the year", x.count(2), 0);
        Due.is("words", x.count(0), 0);
        Due.is("words in use", x.count(1), 0);
        Due.is("wants", x.count(3), 0);
        Due.is("clauses", x.count(4), 0);
        Due.is("the tape", x.count(5), 0);
        Due.is("silence", x.count(6), 1000);
        Due.is("laws", x.count(7), 0);
        for (int i = 0; i < 4; i++) {
            Due.is("people of sort " + i, x.count(20 + i), 0);
            Due.is("law " + i, x.lawIs(i, 0), -1);
        }
        x.want(0, 0, 1, 0);
        Due.is("what can't be said costs silence", x.talk(0, -1), 1000);
        Due.is("the first word is of year 0", x.word(0, 0, 1) + x.strike(0), 0);
    }

    private static void word(Document doc) {
        doc.promise(2);
        doc.says("A WORD (meaning 0 to 63; of KINDS 1 to 3 it says nothing), IN USE: its number");
        WordYear x = new WordYear();
        Due.is("meaning 0", x.word(0, 0, 1), 0);
        Due.is("meaning 63", x.word(0, 63, 9), 1);
        Due.is("a NOT of 63", x.word(1, 63, 1), 2);
        Due.is("an AND of 63", x.word(2, 63, 1), 3);
        Due.is("an OR of 62", x.word(3, 62, 1), 4);
        Due.is("in use", x.count(1), 31);
        Due.is("a NOT says nothing", x.brief(4, 63), -2);
        Due.is("an AND says nothing", x.brief(8, 63), -2);
        Due.is("an OR says nothing", x.brief(16, 62), -2);
        Due.is("a NOT's meaning is not told", x.told(2), -1);
        doc.says("NONE: no such ones, 10 are there");
        Outside.of("a kind", 0, 3, -1, n -> x.word(n, 0, 1));
        Outside.of("a meaning", 0, 63, -1, n -> x.word(0, n, 1));
        Outside.of("a NOT's meaning", 0, 63, -1, n -> x.word(1, n, 1));
        Outside.of("a length", 1, 9, -1, n -> x.word(0, 0, n));
        Due.is("five are there", x.count(0), 5);
        for (int w = 5; w < 10; w++) {
            Due.is("word " + w, x.word(w % 4, w, w), w);
        }
        Due.is("10 are there", x.word(0, 0, 1), -1);
        for (int w = 0; w < 10; w++) {
            x.strike(w);
        }
        Due.is("10 struck ones are there", x.word(0, 0, 1), -1);
        Due.is("they are ten", x.count(0), 10);
    }

    private static void people(Document doc) {
        doc.promise(3);
        doc.says("How many people are of a SORT: true; false: no such ones");
        WordYear x = new WordYear();
        for (int sort = 0; sort < 4; sort++) {
            Due.is("1000 of sort " + sort, x.people(sort, 1000), true);
            Due.is("then", x.count(20 + sort), 1000);
            Due.is("0 of sort " + sort, x.people(sort, 0), true);
            Due.is("then", x.count(20 + sort), 0);
            int some = sort;
            x.people(sort, 7);
            Outside.of("people of sort " + sort, 0, 1000, 0, n -> x.people(some, n) ? 1 : 0);
            Due.is("they are as before", x.count(20 + sort), 7);
        }
        Outside.of("a sort", 0, 3, 0, n -> x.people(n, 1) ? 1 : 0);
    }

    private static void want(Document doc) {
        doc.promise(4);
        doc.says("A WANT: its number; NONE: no such ones, 24 are there");
        WordYear x = new WordYear();
        Outside.of("a sort", 0, 3, -1, n -> x.want(n, 0, 0, 0));
        Outside.of("a meaning", 0, 63, -1, n -> x.want(0, n, 0, 0));
        Outside.of("how often", 0, 1000, -1, n -> x.want(0, 0, n, 0));
        Outside.of("a must", 0, 2000, -1, n -> x.want(0, 0, 0, n));
        Due.is("none is there", x.count(3), 0);
        Due.is("the least", x.want(0, 0, 0, 0), 0);
        Due.is("the most", x.want(3, 63, 1000, 2000), 1);
        for (int i = 2; i < 24; i++) {
            Due.is("want " + i, x.want(i % 4, i, i, i), i);
        }
        Due.is("24 are there", x.want(0, 0, 0, 0), -1);
        Due.is("they are 24", x.count(3), 24);
        Due.is("musts of want 23 and all but 0", x.musts(0), (1 << 24) - 2);
    }

    private static void often(Document doc) {
        doc.promise(5);
        doc.says("How OFTEN a WANT is from now on: true; false: no such ones");
        WordYear x = new WordYear();
        Due.is("none is there", x.often(0, 1), false);
        for (int i = 0; i < 24; i++) {
            x.want(0, 0, 1, 0);
            Due.is("the one behind the last", x.often(i + 1, 1), false);
        }
        Outside.of("a want", 0, 23, 0, i -> x.often(i, 1) ? 1 : 0);
        Outside.of("how often", 0, 1000, 0, n -> x.often(0, n) ? 1 : 0);
        Due.is("talk is as before", x.talk(0, -1), 24000);
        Due.is("the first, 0", x.often(0, 0), true);
        Due.is("talk then", x.talk(0, -1), 23000);
        Due.is("the last, 1000", x.often(23, 1000), true);
        Due.is("talk then", x.talk(0, -1), 1022000);
        Due.is("the first again", x.often(0, 1), true);
        Due.is("talk then", x.talk(0, -1), 1023000);
    }

    private static void silence(Document doc) {
        doc.promise(6);
        doc.says("SILENCE: true; false: no such number");
        WordYear x = new WordYear();
        x.want(0, 0, 3, 0);
        Outside.of("silence", 0, 5000, 0, n -> x.silence(n) ? 1 : 0);
        Due.is("as at first", x.count(6), 1000);
        Due.is("the most", x.silence(5000), true);
        Due.is("talk then", x.talk(0, 0), 15000);
        Due.is("the least", x.silence(0), true);
        Due.is("talk then", x.talk(0, 0), 0);
        Due.is("it is told", x.count(6), 0);
    }

    private static void feed(Document doc) {
        doc.promise(7);
        doc.says("Twenty bytes come behind the tape, the highest of each int first: how many it has");
        WordYear x = Scene.of(1, 2, 4, 8);
        Due.is("the first 20", x.feed(0x03020100, 0, 0, 0, 0), 20);
        Due.is("20 more", x.feed(-1, -1, -1, -1, -1), 40);
        x.want(0, 1, 0, 1);
        Due.is("3, 2, 1, 0", x.row(4, 1), 3);
        x.feed(0x00010203, 0, 0, 0, 0);
        Due.is("0, 1, 2, 3", x.row(4, 1), 0);
        WordYear y = Scene.of(0, 1, 2, 3, 4, 5, 6, 7, 8, 9);
        y.feed(1, 1, 1, 1, 1);
        y.feed(1, 1, 1, 1, 1);
        y.feed(-2, 0x7fffffff, 0, 0, 0);
        Due.is("behind one another", y.check(1023, 12), 11);
        doc.says("NONE if that would be more than 300");
        for (int n = 20; n <= 300; n += 20) {
            Due.is("up to " + n, x.feed(-2, -2, -2, -2, -2), n);
        }
        Due.is("more than 300", x.feed(-2, -2, -2, -2, -2), -1);
        Due.is("they are 300", x.count(5), 300);
        Due.is("the first 64 numbers stand", x.check(0, 64), -1);
        Due.is("room again", x.feed(0, 0, 0, 0, 0), 20);
    }

    private static void near(Document doc) {
        doc.promise(8);
        doc.says("THE LAW of what is NEAR by the first n bytes of the tape (1 to 160; empty then), in place of the one before: how "
                + "many CLAUSES");
        WordYear x = Scene.of(7);
        Due.is("one clause", Text.near(x, "k1(1=1)"), 1);
        Due.is("the tape is empty", x.count(5), 0);
        Due.is("by it", x.sayable(1, 3, 0), 2);
        Due.is("twelve, in its place", Text.near(x, "k5(1=1);".repeat(11) + "k9(1=1)"), 12);
        Due.is("by them", x.sayable(1, 3, 0), 6);
        Due.is("one again", Text.near(x, "k2(1=2)"), 1);
        Due.is("by that", x.sayable(1, 3, 0), -2);
        Due.is("clauses", x.count(4), 1);
        Due.is("a byte", Text.near(x, "k"), -1001);
        Text.feed(x, "k7(1=1);k8(1=1)");
        Due.is("the first 7 bytes", x.near(7), 1);
        Due.is("by them", x.sayable(1, 3, 0), 8);
        Due.is("all is used up", x.count(5), 0);
        String twenty = "k3(1=1" + "&1=1".repeat(3) + ") ";
        Text.feed(x, twenty.substring(0, 19) + ";");
        Due.is("all 20 bytes of 20", x.near(20), -1020);
        Text.feed(x, "k4(1=1" + "&1=1".repeat(38) + ")");
        Due.is("159 of 160", x.near(159), 1);
        Text.feed(x, "k40(1=1" + "&1=1".repeat(38) + ")");
        Due.is("160 of 160", x.near(160), 1);
        Due.is("by these", x.sayable(1, 3, 0), 41);
    }

    private static void nearRefused(Document doc) {
        doc.says("a FAULT: -1000 times its number, less its place (the TEXT before stays)");
        WordYear x = Scene.of(7);
        Text.near(x, "k1(1=1);k2(2=2)");
        String[] faults = {"?", "k123456(", "k1((((((((", "k3(1=1)?", "k1(1=1);".repeat(12) + "k", "k3(1=1" + "|1=1".repeat(38)};
        int[] due = {-1000, -2006, -5008, -1007, -4096, -1158};
        for (int i = 0; i < faults.length; i++) {
            Due.is(faults[i], Text.near(x, faults[i]), due[i]);
            Due.is("the tape behind it", x.count(5), 0);
            Due.is("the text before", x.sayable(1, 3, 0), 2);
            Due.is("its clauses", x.count(4), 2);
        }
        doc.says("NONE: no such n, it has not so many (the tape stays)");
        Due.is("no bytes", x.near(1), -1);
        Text.feed(x, "k3(1=1)");
        Outside.of("of 20", 1, 20, -1, x::near);
        Due.is("the tape stays", x.count(5), 20);
        Due.is("the law stays", x.sayable(1, 3, 0), 2);
        for (int i = 0; i < 14; i++) {
            x.feed(0, 0, 0, 0, 0);
        }
        Outside.of("of 300", 1, 160, -1, x::near);
        Due.is("the tape stays full", x.count(5), 300);
        Due.is("its first 7", x.near(7), 1);
        Due.is("by them", x.sayable(1, 3, 0), 4);
    }

    private static void brief(Document doc) {
        doc.promise(9);
        doc.says("-2: it can't be SAID");
        WordYear x = Scene.of(0, 63);
        Due.is("by the empty tongue", x.brief(0, 0), -2);
        Due.is("by another word", x.brief(2, 0), -2);
        Due.is("by none of them", x.brief(3, 1), -2);
        Due.is("the least", x.brief(1, 0), 1);
        Due.is("the most", x.brief(2, 63), 1);
        Text.near(x, "k0(1=1)");
        Due.is("what is near is not said", x.brief(3, 1), -2);
        doc.says("NONE: no such ones");
        Outside.of("a tongue", 0, 3, -1, n -> x.brief(n, 0));
        Outside.of("a meaning", 0, 63, -1, n -> x.brief(3, n));
        Outside.of("a meaning by the empty tongue", 0, 63, -1, n -> x.brief(0, n));
    }

    private static void how(Document doc) {
        doc.promise(10);
        doc.says("what 0 by which KIND, 1 the WORD, or the first MEANING (of NOT: the one that is not), 2 the second MEANING (NONE: "
                + "there is none)");
        WordYear x = Scene.of(0, 7, 56, 14);
        x.word(1, 0, 1);
        x.word(2, 0, 1);
        x.word(3, 0, 1);
        int[][] due = {{0, 0, 0, -1}, {56, 0, 2, -1}, {49, 1, 14, -1}, {63, 1, 0, -1}, {6, 2, 7, 14}, {15, 3, 7, 14}};
        for (int[] one : due) {
            for (int what = 0; what < 3; what++) {
                Due.is("how(127, " + one[0] + ", " + what + ")", x.how(127, one[0], what), one[1 + what]);
            }
        }
        doc.says("-2: it can't be SAID");
        for (int what = 0; what < 3; what++) {
            Due.is("how(15, 1, " + what + ")", x.how(15, 1, what), -2);
            Due.is("how(0, 0, " + what + ")", x.how(0, 0, what), -2);
        }
        doc.says("NONE also: no such ones");
        Outside.of("a tongue", 0, 127, -1, n -> x.how(n, 0, 0));
        Outside.of("a meaning", 0, 63, -1, n -> x.how(127, n, 0));
        Outside.of("what", 0, 2, -1, n -> x.how(127, 0, n));
        Outside.of("what of one that can't be said", 0, 2, -1, n -> x.how(0, 0, n));
    }

    private static void sayable(Document doc) {
        doc.promise(11);
        doc.says("what 0 for how much, 1 the MEANING that is said");
        WordYear x = Scene.of(0, 63);
        Text.near(x, "k1000(a=1)");
        Due.is("for 1", x.sayable(3, 0, 0), 1);
        Due.is("0 by itself", x.sayable(3, 0, 1), 0);
        Due.is("63 by itself", x.sayable(3, 63, 1), 63);
        Due.is("for 1001", x.sayable(3, 1, 0), 1001);
        Due.is("1 by the lowest", x.sayable(3, 1, 1), 0);
        Due.is("1 by the highest", x.sayable(2, 1, 1), 63);
        doc.says("-2: NEVER");
        Due.is("for how much", x.sayable(3, 2, 0), -2);
        Due.is("by which", x.sayable(3, 2, 1), -2);
        Due.is("the empty tongue", x.sayable(0, 1, 0), -2);
        doc.says("NONE: no such ones");
        Outside.of("a tongue", 0, 3, -1, n -> x.sayable(n, 0, 0));
        Outside.of("a meaning", 0, 63, -1, n -> x.sayable(3, n, 0));
        Outside.of("what", 0, 1, -1, n -> x.sayable(3, 0, n));
        Outside.of("what of one that never", 0, 1, -1, n -> x.sayable(3, 2, n));
    }

    private static void talk(Document doc) {
        doc.promise(12);
        doc.says("TALK of a TONGUE by a SORT (NONE: all)");
        WordYear x = Scene.of(1);
        for (int sort = 0; sort < 4; sort++) {
            x.want(sort, 1, 1 << 2 * sort, 0);
        }
        for (int sort = 0; sort < 4; sort++) {
            Due.is("sort " + sort, x.talk(1, sort), 1 << 2 * sort);
            Due.is("sort " + sort + " by the empty tongue", x.talk(0, sort), 1000 << 2 * sort);
        }
        Due.is("all", x.talk(1, WordYear.NONE), 85);
        Due.is("all by the empty tongue", x.talk(0, -1), 85000);
        doc.says("-1: no such ones");
        Outside.of("a tongue", 0, 1, -1, n -> x.talk(n, 0));
        Outside.of("a sort", -1, 3, -1, n -> x.talk(1, n));
    }

    private static void musts(Document doc) {
        doc.promise(13);
        doc.says("The MUSTS that can't be by a TONGUE: WANTS, as bits; NONE: no such one");
        WordYear x = Scene.of(1);
        Due.is("no wants", x.musts(0), 0);
        for (int i = 0; i < 24; i++) {
            x.want(0, 1 + i % 2, 0, i < 22 ? 1 : 2000);
        }
        Due.is("every other one, the last, too", x.musts(1), 0xaaaaaa);
        Due.is("all 24", x.musts(0), 0xffffff);
        Outside.of("a tongue", 0, 1, -1, x::musts);
    }
}
