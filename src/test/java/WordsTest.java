/** Promises 2 word, 3 people, 4 want, 5 often, 6 silence, 7 feed, 14 strike, 33 count. */
final class WordsTest {
    public static void main(String[] args) {
        words();
        people();
        wants();
        silence();
        feed();
        strike();
        count();
        Due.end("WordsTest");
    }

    private static void words() {
        WordYear x = new WordYear();
        Due.is("word(-1, 0, 1)", x.word(-1, 0, 1), -1);
        Due.is("word(4, 0, 1)", x.word(4, 0, 1), -1);
        Due.is("word(0, -1, 1)", x.word(0, -1, 1), -1);
        Due.is("word(0, 64, 1)", x.word(0, 64, 1), -1);
        Due.is("word(1, 64, 1)", x.word(1, 64, 1), -1);
        Due.is("word(0, 0, 0)", x.word(0, 0, 0), -1);
        Due.is("word(0, 0, 10)", x.word(0, 0, 10), -1);
        Due.is("word(MIN, MIN, MIN)", x.word(Integer.MIN_VALUE, Integer.MIN_VALUE, Integer.MIN_VALUE), -1);
        Due.is("count(0) behind refused ones", x.count(0), 0);
        Due.is("word(0, 0, 1)", x.word(0, 0, 1), 0);
        Due.is("word(0, 63, 9)", x.word(0, 63, 9), 1);
        Due.is("word(1, 63, 9)", x.word(1, 63, 9), 2);
        Due.is("word(2, 5, 1)", x.word(2, 5, 1), 3);
        Due.is("word(3, 0, 1)", x.word(3, 0, 1), 4);
        Due.is("a NOT says nothing itself", x.brief(4, 63), -2);
        Due.is("an AND says nothing itself", x.brief(8, 5), -2);
        Due.is("word 0's meaning", x.brief(1, 0), 1);
        Due.is("word 1's meaning and length", x.brief(2, 63), 9);
        Due.is("all are in use", x.count(1), 31);
        for (int w = 5; w < 10; w++) {
            Due.is("word(0, 7, 3) number " + w, x.word(0, 7, 3), w);
        }
        Due.is("an eleventh word", x.word(0, 7, 3), -1);
        Due.is("count(0) of ten", x.count(0), 10);
        Due.is("count(1) of ten", x.count(1), 1023);
        x.strike(0);
        Due.is("an eleventh word, one struck", x.word(0, 7, 3), -1);
    }

    private static void people() {
        WordYear x = new WordYear();
        Due.is("people(0, 0)", x.people(0, 0), true);
        Due.is("people(3, 1000)", x.people(3, 1000), true);
        Due.is("people(1, 7)", x.people(1, 7), true);
        Due.is("people(4, 0)", x.people(4, 0), false);
        Due.is("people(-1, 0)", x.people(-1, 0), false);
        Due.is("people(3, 1001)", x.people(3, 1001), false);
        Due.is("people(3, -1)", x.people(3, -1), false);
        Due.is("count(23)", x.count(23), 1000);
        Due.is("count(21)", x.count(21), 7);
        Due.is("count(20)", x.count(20), 0);
        Due.is("people(1, 2)", x.people(1, 2), true);
        Due.is("count(21) then", x.count(21), 2);
    }

    private static void wants() {
        WordYear x = new WordYear();
        Due.is("want(-1, 0, 0, 0)", x.want(-1, 0, 0, 0), -1);
        Due.is("want(4, 0, 0, 0)", x.want(4, 0, 0, 0), -1);
        Due.is("want(0, -1, 0, 0)", x.want(0, -1, 0, 0), -1);
        Due.is("want(0, 64, 0, 0)", x.want(0, 64, 0, 0), -1);
        Due.is("want(0, 0, -1, 0)", x.want(0, 0, -1, 0), -1);
        Due.is("want(0, 0, 1001, 0)", x.want(0, 0, 1001, 0), -1);
        Due.is("want(0, 0, 0, -1)", x.want(0, 0, 0, -1), -1);
        Due.is("want(0, 0, 0, 2001)", x.want(0, 0, 0, 2001), -1);
        Due.is("often(0, 1) without wants", x.often(0, 1), false);
        Due.is("count(3) behind refused ones", x.count(3), 0);
        Due.is("want(3, 63, 1000, 2000)", x.want(3, 63, 1000, 2000), 0);
        Due.is("its talk", x.talk(0, 3), 1000000);
        Due.is("its must", x.musts(0), 1);
        for (int i = 1; i < 24; i++) {
            Due.is("want " + i, x.want(0, i, 1, 0), i);
        }
        Due.is("a 25th want", x.want(0, 0, 1, 0), -1);
        Due.is("count(3)", x.count(3), 24);
        Due.is("talk of all", x.talk(0, -1), 1023000);
        Due.is("often(0, 0)", x.often(0, 0), true);
        Due.is("talk then", x.talk(0, -1), 23000);
        Due.is("a must stands though it is never wanted", x.musts(0), 1);
        Due.is("often(23, 1000)", x.often(23, 1000), true);
        Due.is("talk then", x.talk(0, 0), 1022000);
        Due.is("often(24, 1)", x.often(24, 1), false);
        Due.is("often(-1, 1)", x.often(-1, 1), false);
        Due.is("often(0, 1001)", x.often(0, 1001), false);
        Due.is("often(0, -1)", x.often(0, -1), false);
        Due.is("talk is as before", x.talk(0, -1), 1022000);
    }

    private static void silence() {
        WordYear x = new WordYear();
        x.want(0, 1, 3, 0);
        Due.is("talk at first", x.talk(0, -1), 3000);
        Due.is("silence(5000)", x.silence(5000), true);
        Due.is("talk then", x.talk(0, -1), 15000);
        Due.is("silence(5001)", x.silence(5001), false);
        Due.is("silence(-1)", x.silence(-1), false);
        Due.is("count(6)", x.count(6), 5000);
        Due.is("silence(0)", x.silence(0), true);
        Due.is("talk of nothing", x.talk(0, -1), 0);
        x.word(0, 1, 7);
        Due.is("silence bounds what can be said, too", x.talk(1, -1), 0);
        x.silence(6);
        Due.is("silence of 6, a word of 7", x.talk(1, -1), 18);
        x.silence(8);
        Due.is("silence of 8, a word of 7", x.talk(1, -1), 21);
    }

    private static void feed() {
        WordYear x = new WordYear();
        for (int n = 20; n <= 300; n += 20) {
            Due.is("feed up to " + n, x.feed(1, 2, 3, 4, 5), n);
        }
        Due.is("feed beyond 300", x.feed(1, 2, 3, 4, 5), -1);
        Due.is("count(5)", x.count(5), 300);
        Due.is("check uses it up", x.check(0, 0), -1);
        Due.is("count(5) then", x.count(5), 0);
        x.word(0, 0, 1);
        x.word(0, 1, 2);
        x.word(0, 2, 3);
        x.word(0, 3, 4);
        x.word(0, 4, 5);
        x.feed(1, 2, 3, 4, 5);
        Due.is("the order of the five", x.check(31, 5), -1);
        x.feed(0x01000302, 0, 0, 0, 0);
        x.want(0, 0, 1, 1);
        Due.is("the highest byte comes first", x.row(2, 1), 1);
    }

    private static void strike() {
        WordYear x = new WordYear();
        Due.is("strike(0) without words", x.strike(0), -1);
        x.word(0, 1, 1);
        x.word(1, 0, 1);
        x.word(0, 2, 1);
        Due.is("strike(3)", x.strike(3), -1);
        Due.is("strike(-1)", x.strike(-1), -1);
        Due.is("strike(MAX)", x.strike(Integer.MAX_VALUE), -1);
        Due.is("the year is as before", x.count(2), 0);
        Due.is("strike(1)", x.strike(1), 0);
        Due.is("strike(1) again", x.strike(1), -1);
        Due.is("the year", x.count(2), 1);
        Due.is("in use", x.count(1), 5);
        Due.is("strike(0)", x.strike(0), 1);
        Due.is("the years of words", x.count(10) * 100 + x.count(11), 100);
        Due.is("the year of one in use", x.count(12), -1);
        Due.is("a struck word still says in a tongue", x.brief(3, 62), 2);
    }

    private static void count() {
        WordYear x = new WordYear();
        x.word(0, 1, 1);
        Due.is("count(-1)", x.count(-1), -1);
        Due.is("count(8)", x.count(8), -1);
        Due.is("count(9)", x.count(9), -1);
        Due.is("count(10) in use", x.count(10), -1);
        Due.is("count(19) of no word", x.count(19), -1);
        Due.is("count(24)", x.count(24), -1);
        Due.is("count(MIN)", x.count(Integer.MIN_VALUE), -1);
        Due.is("count(MAX)", x.count(Integer.MAX_VALUE), -1);
        Text.near(x, "k1(1=1);k2(2=2)");
        Due.is("clauses", x.count(4), 2);
        Text.law(x, 1, "a");
        Text.law(x, 3, "-a");
        Due.is("told laws", x.count(7), 10);
        x.feed(0, 0, 0, 0, 0);
        Due.is("bytes", x.count(5), 20);
    }
}
