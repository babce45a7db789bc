/** Promises 29 law, 30 lawIs. */
final class LawTest {
    public static void main(String[] args) {
        meanings();
        faults();
        refusals();
        lawIs();
        Due.end("LawTest");
    }

    /** Words a 7, b 28, c 49 of lengths 2, 3, 4; a NOT (d); e 1, struck. */
    private static WordYear some() {
        WordYear x = new WordYear();
        x.word(0, 7, 2);
        x.word(0, 28, 3);
        x.word(0, 49, 4);
        x.word(1, 0, 5);
        x.word(0, 1, 9);
        x.strike(4);
        return x;
    }

    private static void law(String text, int due) {
        WordYear x = some();
        Due.is("law of " + text, Text.law(x, 2, text), due);
        Due.is("told laws behind " + text, x.count(7), due < 0 ? 0 : 4);
        Due.is("lawIs(2, 0) behind " + text, x.lawIs(2, 0), due < 0 ? -1 : due);
        Due.is("bytes behind " + text, x.count(5), 0);
    }

    private static void meanings() {
        law("a", 7);
        law("c", 49);
        law("e", 1);
        law("-a", 56);
        law("--a", 7);
        law("a+b", 31);
        law("ab", 4);
        law("abc", 0);
        law("a+bc", 7 | 16);
        law("(a+b)c", 1 | 16);
        law("a(b+c)", 4 | 1);
        law("ab+c", 4 | 49);
        law("-ab", 24);
        law("-(ab)", 59);
        law("a-b", 3);
        law("-a-b", 32);
        law("-(a+b)+c", 32 | 49);
        law("-a+b", 56 | 28);
        law("((a))((b))", 4);
        law("a+b+c", 63);
        law("-(-(-(a)))", 56);
        law("aaaaaaaaaaaaaaaaaaaaaaaaaaaaaaaaaaaaaaaaaaaaaaaaaaaaaaaaaaab", 4);
    }

    private static void faults() {
        law("k", -1000);
        law("A", -1000);
        law(" a", -1000);
        law("+a", -1000);
        law(")", -1000);
        law("1", -1000);
        law("a ", -1001);
        law("a)", -1001);
        law("a+", -1002);
        law("a++b", -1002);
        law("-", -1001);
        law("-+a", -1001);
        law("(", -1001);
        law("()", -1001);
        law("(a", -1002);
        law("(a+)", -1003);
        law("(a))", -1003);
        law("(-)", -1002);
        law("d", -2000);
        law("f", -2000);
        law("j", -2000);
        law("ad", -2001);
        law("a+(bj", -2004);
        law("dk", -2000);
        law("kd", -1000);
        law("------a", 7);
        law("-------a", -5006);
        law("((((((a))))))", 7);
        law("(((((((a)))))))", -5006);
        law("-(-(-(-a)))", -5006);
        law("-(-(-(a)a)a)a", 63 & ~(63 & ~(56 & 7) & 7) & 7);
        law("(((((-a-a-a)))))", 56);
        law("(((((-a-(a))))))", -5008);
        law("(((((-(-a))))))", -5006);
        law("------(a)", -5006);
        law("((((((-a))))))", -5006);
        law("" + (char) 225, -1000);
    }

    private static void refusals() {
        WordYear x = some();
        Due.is("law(0, 1) without bytes", x.law(0, 1), -1);
        Text.feed(x, "a+b");
        Due.is("law(4, 1)", x.law(4, 1), -1);
        Due.is("law(-1, 1)", x.law(-1, 1), -1);
        Due.is("law(0, 0)", x.law(0, 0), -1);
        Due.is("law(0, -1)", x.law(0, -1), -1);
        Due.is("law(0, 61)", x.law(0, 61), -1);
        Due.is("law(0, 21) of 20", x.law(0, 21), -1);
        Due.is("the tape stays", x.count(5), 20);
        Due.is("law(0, 3)", x.law(0, 3), 31);
        Due.is("the tape is empty", x.count(5), 0);
        for (int i = 0; i < 4; i++) {
            Text.feed(x, "aaaaaaaaaaaaaaaaaaaa");
        }
        Due.is("law(0, 61) of 80", x.law(0, 61), -1);
        Due.is("law(3, 60) of 80", x.law(3, 60), 7);
        Due.is("a fault", Text.law(x, 0, "a+"), -1002);
        Due.is("the one before stays", x.lawIs(0, 0), 31);
        Due.is("its length stays", x.lawIs(0, 1), 5);
        Due.is("another in its place", Text.law(x, 0, "b"), 28);
        Due.is("its meaning", x.lawIs(0, 0), 28);
        Due.is("told laws", x.count(7), 9);
    }

    private static void lawIs() {
        WordYear x = some();
        Text.law(x, 0, "-(a+b)c-e+aa");
        Due.is("meaning", x.lawIs(0, 0), 32 | 7);
        Due.is("length: words and two NOTs", x.lawIs(0, 1), 2 + 3 + 4 + 9 + 2 + 2 + 2 * 5);
        Due.is("struck in it", x.lawIs(0, 2), 16);
        Due.is("39 can't be said anew", x.lawIs(0, 3), -2);
        x.word(2, 0, 6);
        Due.is("with three ANDs", x.lawIs(0, 1), 32 + 3 * 6);
        // 39: not (b and ..): 28 & not 7 is 24: not 24.
        Due.is("anew: not (28 and not 7)", x.lawIs(0, 3), 3 + 7 + 6 + 5);
        x.word(3, 0, 9);
        Due.is("with two ORs", x.lawIs(0, 1), 32 + 18 + 18);
        x.word(3, 0, 1);
        Due.is("with two shorter ORs", x.lawIs(0, 1), 32 + 18 + 2);
        Due.is("anew: 7 or not 28", x.lawIs(0, 3), 2 + 8 + 1);
        x.strike(7);
        x.strike(3);
        Due.is("the length is by struck ones, too", x.lawIs(0, 1), 32 + 18 + 2);
        Due.is("anew without the NOT", x.lawIs(0, 3), -2);
        x.strike(0);
        x.strike(5);
        Due.is("struck in it then", x.lawIs(0, 2), 1 + 16);
        Due.is("lawIs(0, 4)", x.lawIs(0, 4), -1);
        Due.is("lawIs(0, -1)", x.lawIs(0, -1), -1);
        Due.is("lawIs(1, 0), not told", x.lawIs(1, 0), -1);
        Due.is("lawIs(4, 0)", x.lawIs(4, 0), -1);
        Due.is("lawIs(-1, 0)", x.lawIs(-1, 0), -1);
        Text.law(x, 1, "b");
        Due.is("anew by its word", x.lawIs(1, 3), 3);
        Due.is("nothing struck in it", x.lawIs(1, 2), 0);
        Text.near(x, "k0(1=1)");
        Due.is("what is near doesn't matter", x.lawIs(0, 3), -2);
    }
}
