/** The bounds that "Terms" names ahead of the law of what is near: things, words, tongues, what is said. */
final class TermsBounds {
    private TermsBounds() {
    }

    static void ask(Document doc) {
        doc.promise(Document.TERMS);
        calls(doc);
        things(doc);
        words(doc);
        tongues(doc);
        said(doc);
        saidHow(doc);
        slate(doc);
    }

    private static void calls(Document doc) {
        doc.says("An object is used for at most 512 calls after it has been made");
        WordYear x = Scene.of(7, 56);
        x.want(0, 63, 2, 0);
        for (int i = 0; i < 253; i++) {
            Due.is("law " + i, Text.near(x, "kx*" + i % 9 + "+y*2(w=w)"), 1);
        }
        // Three calls and 253 times two were made.
        Due.is("call 510", x.sayable(3, 63, 1), 7);
        Due.is("call 511", x.sayable(2, 63, 1), 56);
        Due.is("call 512", x.talk(3, 0), 2 * (1 + 3 * 2));
    }

    private static void things(Document doc) {
        doc.says("THINGS 0 to 5; a MEANING is a set of them, as bits (0 to 63)");
        WordYear x = new WordYear();
        x.word(0, 0, 1);
        x.word(0, 63, 2);
        x.word(0, 32, 3);
        x.word(1, 0, 1);
        x.word(2, 0, 1);
        x.word(3, 0, 1);
        Due.is("no thing", x.brief(1, 0), 1);
        Due.is("all things", x.brief(2, 63), 2);
        Due.is("thing 5 alone", x.brief(4, 32), 3);
        Due.is("all but thing 5", x.brief(4 + 8, 31), 4);
        Due.is("not no thing is all", x.brief(1 + 8, 63), 2);
        Due.is("not all is no thing", x.brief(2 + 8, 0), 3);
        Due.is("no thing, by what is no more", x.brief(2 + 8 + 16, 0), 3);
        Due.is("thing 5 and no thing", x.brief(4 + 8 + 16, 0), 3 + 4 + 1);
        Due.is("thing 5 or all others", x.brief(4 + 8 + 32, 63), 3 + 4 + 1);
        Due.is("below", x.brief(63, -1), -1);
        Due.is("above", x.brief(63, 64), -1);
        Due.is("no thing has its meaning", x.sayable(1, 0, 1), 0);
        Due.is("no thing for how much", x.sayable(1, 0, 0), 1);
        Due.is("no thing is said by a word", x.how(63, 0, 0), 0);
    }

    private static void words(Document doc) {
        doc.says("WORDS 0 to 9");
        WordYear x = new WordYear();
        for (int w = 0; w < 10; w++) {
            Due.is("word " + w, x.word(0, w, 1 + w % 9), w);
        }
        Due.is("word 10", x.word(0, 10, 1), -1);
        Due.is("word 9 says its meaning", x.brief(512, 9), 1);
        Due.is("word 9 is named", x.how(1023, 9, 1), 9);
        Due.is("word 0 is named", x.how(1023, 0, 1), 0);
        doc.says("of a KIND: 0 a MEANING's, 1 NOT, 2 AND, 3 OR");
        WordYear y = Scene.of(3, 6);
        Due.is("a kind below", y.word(-1, 0, 1), -1);
        Due.is("a kind above", y.word(4, 0, 1), -1);
        y.word(1, 0, 1);
        y.word(2, 0, 1);
        y.word(3, 0, 1);
        Due.is("kind 0", y.how(31, 3, 0), 0);
        Due.is("kind 1", y.how(31, 60, 0), 1);
        Due.is("kind 2", y.how(31, 2, 0), 2);
        Due.is("kind 3", y.how(31, 7, 0), 3);
        doc.says("a LENGTH (1 to 9)");
        WordYear z = new WordYear();
        Due.is("of 0", z.word(0, 1, 0), -1);
        Due.is("of -1", z.word(0, 1, -1), -1);
        Due.is("of 10", z.word(0, 1, 10), -1);
        Due.is("of 1", z.word(0, 1, 1), 0);
        Due.is("of 9", z.word(0, 2, 9), 1);
        Due.is("1 long", z.brief(3, 1), 1);
        Due.is("9 long", z.brief(3, 2), 9);
        doc.says("They are IN USE from the beginning");
        z.strike(0);
        z.word(0, 4, 1);
        Due.is("one of a later year, too", z.count(1), 2 + 4);
        Due.is("it was never struck", z.count(12), -1);
        doc.says("each STRUCK one is STRUCK in a YEAR");
        for (int w = 0; w < 10; w++) {
            Due.is("the year of word " + (9 - w), x.strike(9 - w), w);
            Due.is("it is kept", x.count(19 - w), w);
        }
    }

    private static void tongues(Document doc) {
        doc.says("A TONGUE is a set of WORDS, as bits");
        WordYear x = new WordYear();
        Due.is("the empty one, without words", x.talk(0, -1), 0);
        Due.is("one of a word that is not there", x.talk(1, -1), -1);
        x.word(0, 5, 3);
        Due.is("the empty one", x.brief(0, 5), -2);
        Due.is("one of a word", x.brief(1, 5), 3);
        Due.is("one of a word that is not there yet", x.brief(2, 5), -1);
        Due.is("with one that is there", x.brief(3, 5), -1);
        for (int w = 1; w < 10; w++) {
            x.word(0, w, 1);
        }
        Due.is("all ten", x.brief(1023, 9), 1);
        Due.is("an eleventh", x.brief(1024, 9), -1);
        Due.is("with an eleventh", x.brief(2047, 9), -1);
        Due.is("below", x.brief(-1, 9), -1);
        Due.is("far below", x.brief(Integer.MIN_VALUE, 9), -1);
        Due.is("far above", x.brief(Integer.MAX_VALUE, 9), -1);
    }

    private static void said(Document doc) {
        WordYear x = new WordYear();
        x.word(0, 3, 2);
        x.word(0, 6, 3);
        doc.says("a MEANING by a WORD of it (its LENGTH)");
        Due.is("by one of it", x.brief(1, 3), 2);
        Due.is("not by one beside it", x.brief(2, 3), -2);
        doc.says("what is not in one that is SAID, by a NOT of the TONGUE (its LENGTH more)");
        x.word(1, 0, 4);
        Due.is("by a NOT of it", x.brief(1 + 4, 60), 6);
        Due.is("not by a NOT beside it", x.brief(1, 60), -2);
        Due.is("by two NOTs nothing new", x.brief(1 + 4, 3), 2);
        doc.says("what is in both of two that are SAID by an AND, in one or both by an OR (both lengths, and its LENGTH)");
        x.word(2, 0, 5);
        x.word(3, 0, 6);
        Due.is("in both", x.brief(1 + 2 + 8, 2), 2 + 3 + 5);
        Due.is("in one or both", x.brief(1 + 2 + 16, 7), 2 + 3 + 6);
        Due.is("in both, no AND", x.brief(1 + 2 + 16, 2), -2);
        Due.is("in one or both, no OR", x.brief(1 + 2 + 8, 7), -2);
        Due.is("joints alone say nothing", x.brief(4 + 8 + 16, 0), -2);
        doc.says("BRIEF is the least length");
        x.word(0, 2, 9);
        Due.is("a word of 9, an AND of 10", x.brief(1 + 2 + 8 + 32, 2), 9);
        x.word(0, 6, 1);
        Due.is("an AND of 8 by a shorter word", x.brief(1 + 8 + 32 + 64, 2), 8);
        // Of four words of 1, 2, 3, 4 and an OR of 5: three ORs, whatever is joined first.
        WordYear four = new WordYear();
        four.word(3, 0, 5);
        for (int thing = 0; thing < 4; thing++) {
            four.word(0, 1 << thing, 1 + thing);
        }
        Due.is("four by ORs", four.brief(31, 15), 10 + 15);
        Due.is("three by ORs", four.brief(31, 14), 9 + 10);
        four.word(0, 6, 9);
        four.word(0, 12, 1);
        Due.is("by a word for two of them", four.brief(127, 15), 1 + 2 + 1 + 10);
        Due.is("by a word for the others", four.brief(127, 14), 2 + 1 + 5);
        doc.says("(Of several NOTs, ANDs, ORs the least LENGTH.)");
        WordYear y = Scene.of(3, 6);
        for (int kind = 1; kind <= 3; kind++) {
            y.word(kind, 0, 9);
            y.word(kind, 0, 2);
        }
        Due.is("NOTs", y.brief(255, 60), 3);
        Due.is("ANDs", y.brief(255, 2), 4);
        Due.is("ORs", y.brief(255, 7), 4);
        Due.is("the long NOT", y.brief(1 + 4, 60), 10);
        Due.is("the long AND", y.brief(3 + 16, 2), 11);
        Due.is("the long OR", y.brief(3 + 64, 7), 11);
    }

    private static void how(WordYear x, int meaning, int kind, int first, int second) {
        int tongue = (1 << x.count(0)) - 1;
        Due.is("the kind for " + meaning, x.how(tongue, meaning, 0), kind);
        Due.is("the first for " + meaning, x.how(tongue, meaning, 1), first);
        Due.is("the second for " + meaning, x.how(tongue, meaning, 2), second);
    }

    private static void saidHow(Document doc) {
        doc.says("of like ones a WORD, then NOT, AND, OR");
        WordYear x = new WordYear();
        x.word(0, 1, 1);
        x.word(1, 0, 2);
        x.word(0, 62, 3);
        how(x, 62, 0, 2, -1);
        WordYear z = Scene.of(1, 61, 59);
        z.word(1, 0, 3);
        z.word(2, 0, 2);
        z.word(0, 6, 1);
        // 57: not 6 and the AND of 59 and 61 are 4 long both.
        how(z, 57, 1, 6, -1);
        WordYear v = Scene.of(7, 11, 1, 2);
        v.word(3, 0, 1);
        v.word(2, 0, 1);
        // 3: the AND of 7 and 11 and the OR of 1 and 2 are 3 long both.
        how(v, 3, 2, 7, 11);
        v.word(0, 3, 3);
        how(v, 3, 0, 6, -1);
        doc.says("of WORDS the lowest");
        WordYear u = new WordYear();
        u.word(0, 5, 4);
        u.word(0, 5, 3);
        u.word(0, 5, 3);
        how(u, 5, 0, 1, -1);
        Due.is("of a tongue without that", u.how(4 + 1, 5, 1), 2);
        doc.says("of two MEANINGS (the first not above the second by number) those with the least first, then second one");
        WordYear t = Scene.of(40, 24, 9, 10, 12);
        t.word(2, 0, 1);
        // 8 is in both of any two of them: 9 is the least, 10 the next.
        how(t, 8, 2, 9, 10);
        Due.is("the least first, without 9", t.how(63 - 4, 8, 1), 10);
        Due.is("its second", t.how(63 - 4, 8, 2), 12);
        Due.is("of 9, 24 and 40 the second is 24", t.how(1 + 2 + 4 + 32, 8, 2), 24);
    }

    private static void slate(Document doc) {
        doc.says("All memory is the slate's own");
        WordYear x = Scene.of(1);
        WordYear y = Scene.of(2);
        x.people(0, 5);
        x.want(0, 1, 1, 1);
        x.silence(7);
        Text.near(x, "k1(w=w)");
        Text.law(x, 0, "a");
        x.strike(0);
        x.feed(0, 0, 0, 0, 0);
        int[] due = {1, 1, 0, 0, 0, 0, 1000, 0};
        for (int what = 0; what < due.length; what++) {
            Due.is("count(" + what + ") of the other", y.count(what), due[what]);
        }
        Due.is("people of the other", y.count(20), 0);
        Due.is("what is near for the other", y.sayable(1, 1, 0), -2);
        Due.is("what it says", y.brief(1, 2), 1);
        Due.is("its law", y.lawIs(0, 0), -1);
    }
}
