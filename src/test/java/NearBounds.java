/** The bounds that "Terms" names of the law of what is near, and of what is sayable by it. */
final class NearBounds {
    private static final int NOT_NEAR = Text.NOT_NEAR;
    private static final String CLAUSE = "k1(w=w)";

    private NearBounds() {
    }

    static void ask(Document doc) {
        doc.promise(Document.TERMS);
        text(doc);
        clauses(doc);
        conditions(doc);
        sums(doc);
        letters(doc);
        bits(doc);
        refused(doc);
        whatCantStand(doc);
        digitsAndClauses(doc);
        open(doc);
        sayable(doc);
    }

    private static void near(String text, int due) {
        WordYear x = new WordYear();
        Due.is("near of " + text, Text.near(x, text), due);
        Due.is("clauses then", x.count(4), Math.max(0, due));
    }

    /** What it costs to say 22 (things 1, 2, 4; a word of 6) for 11 (things 0, 1, 3). */
    private static void cost(String law, int due) {
        Due.is("cost by " + law, Text.cost(law, 11, 22, 6), due);
    }

    private static void text(Document doc) {
        doc.says("a TEXT of at most 160 bytes");
        String full = "k0" + "+1".repeat(76) + "(1=1)";
        Due.is("its bytes", full.length(), 159);
        near(full + ";", -1160);
        near("k00" + "+1".repeat(76) + "(1=1)", 1);
        cost("k00" + "+1".repeat(76) + "(1=1)", 76);
        cost("k9(1=2" + "|1=2".repeat(37) + "|3=3)", 9);
        WordYear x = new WordYear();
        Text.feed(x, "k00" + "+1".repeat(77) + "(1=1)");
        Due.is("162 bytes", x.near(162), -1);
        Due.is("161 of them", x.near(161), -1);
        Due.is("160 of them", x.near(160), -1160);
        doc.says("no blanks");
        near(" k1(w=w)", -1000);
        near("k 1(w=w)", -1001);
        near("k1 (w=w)", -1002);
        near("k1( w=w)", -1003);
        near("k1(w =w)", -1004);
        near("k1(w= w)", -1005);
        near("k1(w=w )", -1006);
        near("k1(w=w) ", -1007);
        near("k1(w=w) ;k1(w=w)", -1007);
        near("k1(w=w); k1(w=w)", -1008);
        near("k1\t(w=w)", -1002);
        near("k1\n(w=w)", -1002);
        doc.says("(none at first: nothing is near)");
        WordYear y = Scene.of(7);
        Due.is("no clauses", y.count(4), 0);
        Due.is("what is nearest", y.sayable(1, 3, 0), -2);
        Due.is("itself", y.sayable(1, 7, 0), 1);
    }

    private static void clauses(Document doc) {
        doc.says("CLAUSES (12 at most) with a ; (59) between two");
        near(CLAUSE, 1);
        near(CLAUSE + (char) 59 + CLAUSE, 2);
        near((CLAUSE + ";").repeat(11) + CLAUSE, 12);
        cost("k1(1=2);".repeat(11) + "k8(1=1)", 8);
        near(CLAUSE + CLAUSE, -1007);
        near(CLAUSE + ":" + CLAUSE, -1007);
        near(CLAUSE + ",", -1007);
        near(CLAUSE + ";;" + CLAUSE, -1008);
        near(";" + CLAUSE, -1000);
        near(CLAUSE + ";", -1008);
        doc.says("what it costs (0 to 1000) to say a MEANING for another one that is wanted");
        cost("k0(w=w)", 0);
        cost("k1000(w=w)", 1000);
        cost("k999+1(w=w)", 1000);
        cost("k1-1(w=w)", 0);
        doc.says("by the first CLAUSE whose C holds");
        cost("k3(w=w);k2(w=w)", 3);
        cost("k3(w<w);k2(w=w);k1(w=w)", 2);
        cost("k1001(w<w);k2(w=w)", 2);
        doc.says("(none, or not from 0 to 1000: it is not near)");
        cost("k3(w<w)", NOT_NEAR);
        cost("k3(w<w);k4(w>w)", NOT_NEAR);
        cost("k1001(w=w)", NOT_NEAR);
        cost("k0-1(w=w)", NOT_NEAR);
        cost("k1001(w=w);k2(w=w)", NOT_NEAR);
        cost("k0-1(w=w);k2(w=w)", NOT_NEAR);
        cost("k99999*99999(w=w)", NOT_NEAR);
        WordYear x = Scene.of(7);
        Text.near(x, "k1(w<w);k2(w=w)");
        Due.is("by the second clause", x.sayable(1, 3, 0), 3);
        Text.near(x, "k1(w<w)");
        Due.is("the second clause is gone", x.sayable(1, 3, 0), -2);
    }

    private static void conditions(Document doc) {
        doc.says("PARTS with a | between two, one of which must hold");
        cost("k1(1=2|2=3|3=4)", NOT_NEAR);
        cost("k1(1=1|2=3|3=4)", 1);
        cost("k1(1=2|2=2|3=4)", 1);
        cost("k1(1=2|2=3|3=3)", 1);
        near("k1(|w=w)", -1003);
        near("k1(w=w|)", -1007);
        near("k1(w=w||w=w)", -1007);
        doc.says("PIECES with an & between two, all of which must");
        cost("k1(1=1&2=2&3=3)", 1);
        cost("k1(1=2&2=2&3=3)", NOT_NEAR);
        cost("k1(1=1&2=3&3=3)", NOT_NEAR);
        cost("k1(1=1&2=2&3=4)", NOT_NEAR);
        cost("k1(1=2&1=2|1=1)", 1);
        cost("k1(1=1|1=2&1=2)", 1);
        near("k1(&w=w)", -1003);
        near("k1(w=w&)", -1007);
        near("k1(w=w&|w=w)", -1007);
        doc.says("a PIECE: !PIECE, (C), or E, one of < > =, and E");
        cost("k1(!1<2)", NOT_NEAR);
        cost("k1(!2>1)", NOT_NEAR);
        cost("k1(!1=1)", NOT_NEAR);
        cost("k1(!2<1)", 1);
        cost("k1(!1>2)", 1);
        cost("k1(!1=2)", 1);
        cost("k1(!!1<2)", 1);
        cost("k1(!!!2>1)", NOT_NEAR);
        cost("k1(!1=2|1=1)", 1);
        cost("k1(!(1=2|1=1))", NOT_NEAR);
        cost("k1(!1=1&1=2)", NOT_NEAR);
        cost("k1(!(1=1&1=2))", 1);
        cost("k1(2<2)", NOT_NEAR);
        cost("k1(2>2)", NOT_NEAR);
        cost("k1(1<2)", 1);
        cost("k1(2>1)", 1);
        cost("k1(2<1)", NOT_NEAR);
        cost("k1(1>2)", NOT_NEAR);
        cost("k1(3=2+1)", 1);
        cost("k1(1+2=3)", 1);
        cost("k1(1+2=9-2*3)", 1);
        near("k1(!)", -1004);
        near("k1(w!=w)", -1004);
        near("k1(w<=w)", -1005);
        near("k1(w<w<w)", -1006);
        near("k1(w)", -1004);
    }

    private static String nested(int n) {
        return "1+2*[".repeat(n) + "1+2*3" + "]".repeat(n);
    }

    private static void sums(Document doc) {
        doc.says("E: TERMS with + or - between two; a TERM: FACTORS with one of * / % between two; from the left on");
        cost("k9-4-3(1=1)", 2);
        cost("k9-4+3(1=1)", 8);
        cost("k24/4/3(1=1)", 2);
        cost("k24/4*3(1=1)", 18);
        cost("k7*5%4(1=1)", 3);
        cost("k23%9%4(1=1)", 1);
        cost("k2+3*4(1=1)", 14);
        cost("k20-6/3(1=1)", 18);
        near("k-1(w=w)", -1001);
        near("k+1(w=w)", -1001);
        near("k1-(w=w)", -1003);
        near("k1*(w=w)", -1003);
        near("k1+-1(w=w)", -1003);
        near("k1*/1(w=w)", -1003);
        doc.says("a FACTOR: [E], a number of one to five digits, or a letter");
        cost("k[2+3]*4(1=1)", 20);
        cost("k9-[4-3](1=1)", 8);
        cost("k0(1=1)", 0);
        cost("k7(1=1)", 7);
        cost("k00007(1=1)", 7);
        cost("k99999-99990(1=1)", 9);
        // Two wait in each of the brackets: 7, then one more than twice that, six times.
        cost("k" + nested(6) + "(1=1)", 511);
        cost("k1(" + nested(5) + "=" + nested(5) + ")", 1);
        cost("k1(" + nested(5) + "<" + nested(5) + ")", NOT_NEAR);
        near("k[](w=w)", -1002);
        near("k[1(w=w)", -1003);
        near("k1](w=w)", -1002);
        near("k1w(w=w)", -1002);
        near("kw1(w=w)", -1002);
        near("k123456(w=w)", -2006);
    }

    private static void letter(String law, int wanted, int said, int due) {
        Due.is(law + " of " + said + " for " + wanted, Text.cost("k" + law + "(1=1)", wanted, said, 9), due);
    }

    private static void letters(Document doc) {
        doc.says("w how many THINGS are wanted, s how many are said, b how many are both, x how many are said and not "
                + "wanted, y how many wanted and not said, a the MEANING wanted, c the one said, l BRIEF of that");
        int[][] pairs = {{0, 63}, {63, 0}, {1, 32}, {32, 1}, {62, 63}, {63, 31}, {11, 22}, {0, 1}, {31, 0}};
        for (int[] pair : pairs) {
            int a = pair[0];
            int c = pair[1];
            letter("w", a, c, Integer.bitCount(a));
            letter("s", a, c, Integer.bitCount(c));
            letter("b", a, c, Integer.bitCount(a & c));
            letter("x", a, c, Integer.bitCount(c & ~a));
            letter("y", a, c, Integer.bitCount(a & ~c));
            letter("a", a, c, a);
            letter("c", a, c, c);
            letter("l", a, c, 9);
        }
        WordYear x = Scene.of(1, 2);
        x.word(3, 0, 7);
        Text.near(x, "kl*10(c=3)");
        Due.is("l of what is joined", x.sayable(7, 4, 0), 9 + 90);
    }

    private static void bits(Document doc) {
        doc.says("All is reckoned with 32 bits, as the machine does");
        cost("k1(65536*32768-1>0)", 1);
        cost("k1(65536*32768<0)", 1);
        cost("k1(65536*32768-1+1<0)", 1);
        cost("k1(65536*65536=0)", 1);
        cost("k1(46341*46341<0)", 1);
        cost("k1(46340*46340>0)", 1);
        cost("k65536*65536+5(1=1)", 5);
        cost("k99999*99999%1000(1=1)", 409);
        cost("k1(65536*32768/[0-1]=65536*32768)", 1);
        cost("k65536*32768%[0-1](1=1)", 0);
        cost("k[0-7]/2+9(1=1)", 6);
        cost("k[0-7]%4+9(1=1)", 6);
        cost("k7/[0-2]+9(1=1)", 6);
        cost("k7%[0-4](1=1)", 3);
    }

    private static void refused(Document doc) {
        doc.says("what is divided by 0 is REFUSED: then a C does not hold, an E is 0");
        cost("k5/0(1=1)", 0);
        cost("k5%0(1=1)", 0);
        cost("k0/0(1=1)", 0);
        cost("k7+5/0(1=1)", 0);
        cost("k5/0+7(1=1)", 0);
        cost("k7+[5%[3-3]](1=1)", 0);
        cost("k7/[w-w](1=1);k3(1=1)", 0);
        cost("k7(1/0=0)", NOT_NEAR);
        cost("k7(1%0=0)", NOT_NEAR);
        cost("k7(0=0/0)", NOT_NEAR);
        cost("k7(!1/0=1)", NOT_NEAR);
        cost("k7(!(1/0=1))", NOT_NEAR);
        cost("k7(1/0=0|1=1)", NOT_NEAR);
        cost("k7(1=1&1/0=0)", NOT_NEAR);
        cost("k7(1/0=0);k3(1=1)", 3);
        cost("k1001(1/0=0);k3(1=1)", 3);
        Due.is("refused for one said, not for another", Text.cost("k6/[s-1]+2(1=1)", 8, 1, 1), 0);
        Due.is("not refused", Text.cost("k6/[s-1]+2(1=1)", 8, 7, 1), 5);
        doc.says("Of a C as much is asked, from the left, as matters");
        cost("k7(1=1|1/0=0)", 7);
        cost("k7(1=2&1/0=0|1=1)", 7);
        cost("k7(!(1=2&1/0=0))", 7);
        cost("k7((1=1|1/0=0)&2=2)", 7);
        cost("k7(1=2|2=2&(1/0=0|1=1))", NOT_NEAR);
        cost("k7(1=1|2=2|1/0=0)", 7);
        cost("k7(1=2&2=2&1/0=0|3=3)", 7);
        cost("k7(1=1);k1/0(1/0=0)", 7);
    }

    private static void whatCantStand(Document doc) {
        doc.says("FAULTS, the first from the left: 1 what can't stand there (the end, too)");
        String whole = "k[1]+w*2(!(w=1)&[s]<2|a>c)";
        near(whole, 1);
        // Cut anywhere, what can't stand there is the end.
        for (int n = 1; n < whole.length(); n++) {
            near(whole.substring(0, n), -1000 - n);
        }
        // A sign that no text has, put anywhere, is the first fault, whatever comes behind it.
        for (int at = 0; at <= whole.length(); at++) {
            near(whole.substring(0, at) + "?" + whole.substring(at), -1000 - at);
            near(whole.substring(0, at) + "?123456((((((((", -1000 - at);
        }
        near("K1(w=w)", -1000);
        near("k1(d=w)", -1003);
        near("k1(W=w)", -1003);
        near("k1(k=w)", -1003);
        near("k1" + (char) 0 + "(w=w)", -1002);
        near("k1" + (char) 255 + "(w=w)", -1002);
        near((char) (128 + 'k') + "1(w=w)", -1000);
        near("k1/(w=w)", -1003);
        near("k/1(w=w)", -1001);
        near("k:(w=w)", -1001);
    }

    private static void digitsAndClauses(Document doc) {
        doc.says("2 a sixth digit, at it");
        near("k123456(w=w)", -2006);
        near("k1234567890(w=w)", -2006);
        near("k000000(w=w)", -2006);
        near("k1(w=123456)", -2010);
        near("k123456", -2006);
        near("k12345?", -1006);
        near("k12345(12345=12345)", 1);
        near("k12345+67890(12345=12345)", 1);
        doc.says("4 a 13th CLAUSE, at its letter (if that can stand there)");
        String twelve = (CLAUSE + ";").repeat(11) + CLAUSE;
        near(twelve + ";" + CLAUSE, -4096);
        near(twelve + ";k", -4096);
        near(twelve + ";k?", -4096);
        near(twelve + ";", -1096);
        near(twelve + ";x", -1096);
        near(twelve + ";;", -1096);
        near(twelve + "k", -1095);
        near(twelve + CLAUSE, -1095);
    }

    private static void open(Document doc) {
        doc.says("5 a seventh of ( [ ! that are open in one another, at it");
        near("k[[[[[[1]]]]]](w=w)", 1);
        near("k[[[[[[[1]]]]]]](w=w)", -5007);
        near("k[[[[[[[", -5007);
        near("k1(([[[[w]]]]=w))", 1);
        near("k1(([[[[[w]]]]]=w))", -5008);
        near("k1(!(!([w]=w)))", 1);
        near("k1(!(!([[w]]=w)))", -5008);
        near("k[[[1]]]+[[[[[[1]]]]]](w=w)", 1);
        near("k[[[[[[1+(", -1009);
        near("k1((((((w=(", -1010);
        near("k1((((((w!", -1009);
        doc.says("(the ( of the CLAUSE counts");
        near("k1((((((w=w))))))", 1);
        near("k1(((((((w=w)))))))", -5008);
        near("k1(!!!!!w=w)", 1);
        near("k1(!!!!!!w=w)", -5008);
        near("k1([[[[[w]]]]]=w)", 1);
        near("k1([[[[[[w]]]]]]=w)", -5008);
        near("k1(w=[[[[[[w]]]]]])", -5010);
        doc.says("a ! is open till its PIECE ends");
        near("k1(!!!!!w=[w])", -5010);
        near("k1(!!!!w=[w])", 1);
        near("k1(!!!!!w=w&!!!!!w=w)", 1);
        near("k1(!!!!!w=w|([[[[w]]]]=w))", 1);
        near("k1(!(!w=w)&!((!w=w)))", 1);
        near("k1(!((!w=w&!!!w=w)))", -5013);
        doc.says("the E of a CLAUSE stands ahead of it)");
        near("k[[[[[[1]]]]]]((((((w=w))))))", 1);
        near("k[[[[[[1]]]]]](((((((w=w)))))))", -5020);
    }

    private static void sayable(Document doc) {
        doc.says("SAYABLE for so much: the least of BRIEF of a MEANING and of BRIEF of another one and what that costs for "
                + "it; of like ones itself, then the lowest MEANING; or NEVER");
        WordYear x = new WordYear();
        x.word(0, 7, 9);
        x.word(0, 6, 4);
        x.word(0, 3, 4);
        x.word(0, 0, 4);
        Text.near(x, "k5(a=7);k0(a=9)");
        Due.is("of like ones for how much", x.sayable(15, 7, 0), 9);
        Due.is("of like ones itself", x.sayable(15, 7, 1), 7);
        Due.is("then the lowest", x.sayable(6, 7, 1), 3);
        Due.is("for as much", x.sayable(6, 7, 0), 9);
        Due.is("the lowest may be no thing", x.sayable(14, 7, 1), 0);
        Due.is("no thing alone", x.sayable(8, 9, 0), 4);
        Due.is("by no thing", x.sayable(8, 9, 1), 0);
        Due.is("the shortest of all", x.sayable(15, 9, 1), 0);
        Due.is("never", x.sayable(15, 8, 0), -2);
        Due.is("never, by nothing", x.sayable(15, 8, 1), -2);
        Due.is("never by the empty tongue", x.sayable(0, 9, 0), -2);
        Text.near(x, "k4(a=7)");
        Due.is("one less", x.sayable(7, 7, 0), 8);
        Due.is("by the lowest of those", x.sayable(7, 7, 1), 3);
        Text.near(x, "k1000(a=8&c=7)");
        Due.is("the most by a word", x.sayable(15, 8, 0), 1009);
        x.word(0, 63, 1);
        Text.near(x, "k9(c=63)");
        Due.is("by all things", x.sayable(16, 0, 1), 63);
        Due.is("for so much", x.sayable(16, 0, 0), 10);
    }
}
