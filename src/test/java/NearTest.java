/** Promises 8 near, 11 sayable. */
final class NearTest {
    private static final int NOT_NEAR = Text.NOT_NEAR;
    private static final String GOOD = "k7(w=w)";

    public static void main(String[] args) {
        faults();
        openOnes();
        manyClauses();
        refusals();
        sayableWithoutLaw();
        letters();
        numbers();
        conditions();
        dividedByNothing();
        choice();
        Due.end("NearTest");
    }

    private static void fault(String text, int number, int place) {
        WordYear x = new WordYear();
        Due.is("near of " + text, Text.near(x, text), -1000 * number - place);
    }

    private static void good(String text, int clauses) {
        WordYear x = new WordYear();
        Due.is("near of " + text, Text.near(x, text), clauses);
        Due.is("clauses of " + text, x.count(4), clauses);
    }

    private static void faults() {
        good(GOOD, 1);
        good("k7(w=w);k8(w<s|b>x&y=a);k[c+l]*2%3(1=1)", 3);
        good("k0(((w=w)))", 1);
        good("k99999(00000=0)", 1);
        good("k1(!!w<s&!(a>c|l=l))", 1);
        fault("x", 1, 0);
        fault(" k1(w=w)", 1, 0);
        fault("K1(w=w)", 1, 0);
        fault("(w=w)", 1, 0);
        fault("k", 1, 1);
        fault("k(w=w)", 1, 1);
        fault("k-1(w=w)", 1, 1);
        fault("kk(w=w)", 1, 1);
        fault("k1", 1, 2);
        fault("k1;", 1, 2);
        fault("k1w(w=w)", 1, 2);
        fault("k1=1(w=w)", 1, 2);
        fault("k1+(w=w)", 1, 3);
        fault("k1*", 1, 3);
        fault("k1//2(w=w)", 1, 3);
        fault("k1+-2(w=w)", 1, 3);
        fault("k[1(w=w)", 1, 3);
        fault("k[](w=w)", 1, 2);
        fault("k1](w=w)", 1, 2);
        fault("k1()", 1, 3);
        fault("k1(w)", 1, 4);
        fault("k1(w=)", 1, 5);
        fault("k1(w==w)", 1, 5);
        fault("k1(w=w=w)", 1, 6);
        fault("k1(w<=w)", 1, 5);
        fault("k1(w=w", 1, 6);
        fault("k1(w=w&)", 1, 7);
        fault("k1(w=w|)", 1, 7);
        fault("k1(w=w&&w=w)", 1, 7);
        fault("k1(w=w))", 1, 7);
        fault("k1(w=w);", 1, 8);
        fault("k1(w=w);;k1(w=w)", 1, 8);
        fault("k1(w=w)k1(w=w)", 1, 7);
        fault("k1(w=w); k1(w=w)", 1, 8);
        fault("k1((w)=w)", 1, 5);
        fault("k1((w=w)=w)", 1, 8);
        fault("k1([w=w]=w)", 1, 5);
        fault("k1(w!w)", 1, 4);
        fault("k1(w=!w)", 1, 5);
        fault("k1(!)", 1, 4);
        fault("k1(d=w)", 1, 3);
        fault("k123456(w=w)", 2, 6);
        fault("k1234567(w=w)", 2, 6);
        fault("k1(w=000000)", 2, 10);
        fault("k1+123456(w=w", 2, 8);
        fault("k1" + (char) 200, 1, 2);
        fault("k1" + (char) 0, 1, 2);
    }

    private static void openOnes() {
        good("k[[[[[[1]]]]]](w=w)", 1);
        fault("k[[[[[[[1]]]]]]](w=w)", 5, 7);
        good("k1((((((w=w))))))", 1);
        fault("k1(((((((w=w)))))))", 5, 8);
        good("k1(!!!!!w=w)", 1);
        fault("k1(!!!!!!w=w)", 5, 8);
        good("k1([[[[[w]]]]]=w)", 1);
        fault("k1([[[[[[w]]]]]]=w)", 5, 8);
        fault("k1(w=[[[[[[w]]]]]])", 5, 10);
        fault("k1(!(!([[w]]=w)))", 5, 8);
        good("k1(!(!([w]=[w])))", 1);
        fault("k1(!!!!!w=[w])", 5, 10);
        good("k1(!!!!!w=w&!!!!!w=w&[[[[[w]]]]]=w)", 1);
        good("k1(!(!(!w=w))&((((!w=w)))))", 1);
        fault("k[[[[[[(", 1, 7);
        fault("k1((((((w=(", 1, 10);
        fault("k1((((((w[", 1, 9);
    }

    private static void manyClauses() {
        StringBuilder text = new StringBuilder(GOOD);
        for (int i = 1; i < 12; i++) {
            text.append(';').append(GOOD);
        }
        good(text.toString(), 12);
        fault(text + ";", 1, 96);
        fault(text + ";x", 1, 96);
        fault(text + ";k", 4, 96);
        fault(text + ";" + GOOD, 4, 96);
        fault(text + "k", 1, 95);
        StringBuilder most = new StringBuilder("k1(w=w");
        for (int i = 0; i < 38; i++) {
            most.append("|w=w");
        }
        good(most + ")", 1);
        Due.is("its bytes", most.length(), 158);
        good(most.substring(0, 157) + "10)", 1);
    }

    private static void refusals() {
        WordYear x = new WordYear();
        Due.is("near(1) without bytes", x.near(1), -1);
        x.word(0, 1, 1);
        Due.is("the first law", Text.near(x, GOOD), 1);
        Due.is("by it", x.sayable(1, 2, 0), 8);
        Text.feed(x, "k9(w=w)");
        Due.is("near(0)", x.near(0), -1);
        Due.is("near(-1)", x.near(-1), -1);
        Due.is("near(21) of 20", x.near(21), -1);
        Due.is("near(161)", x.near(161), -1);
        Due.is("near(MAX)", x.near(Integer.MAX_VALUE), -1);
        Due.is("the tape stays", x.count(5), 20);
        Due.is("near(6)", x.near(6), -1006);
        Due.is("the tape is empty behind a fault", x.count(5), 0);
        Due.is("the law stays behind a fault", x.sayable(1, 2, 0), 8);
        Due.is("its clauses stay", x.count(4), 1);
        Due.is("another law in its place", Text.near(x, "k9(w=w);k3(w=w)"), 2);
        Due.is("by that", x.sayable(1, 2, 0), 10);
        Due.is("clauses of that", x.count(4), 2);
        Due.is("the tape is empty", x.count(5), 0);
        for (int i = 0; i < 9; i++) {
            x.feed(0x6b373d37, 0, 0, 0, 0);
        }
        Due.is("near(161) of 180", x.near(161), -1);
        Due.is("near(160) of 180", x.near(160), -1002);
    }

    private static void sayableWithoutLaw() {
        WordYear x = new WordYear();
        x.word(0, 5, 3);
        x.word(1, 0, 1);
        Due.is("itself", x.sayable(3, 5, 0), 3);
        Due.is("by itself", x.sayable(3, 5, 1), 5);
        Due.is("NOT", x.sayable(3, 58, 0), 4);
        Due.is("by that", x.sayable(3, 58, 1), 58);
        Due.is("never", x.sayable(3, 4, 0), -2);
        Due.is("by nothing", x.sayable(3, 4, 1), -2);
        Due.is("what 2", x.sayable(3, 5, 2), -1);
        Due.is("what -1", x.sayable(3, 5, -1), -1);
        Due.is("meaning 64", x.sayable(3, 64, 0), -1);
        Due.is("meaning -1", x.sayable(3, -1, 0), -1);
        Due.is("tongue 4", x.sayable(4, 5, 0), -1);
        Due.is("tongue -1", x.sayable(-1, 5, 0), -1);
    }

    /** What a law costs to say 22 (things 1, 2, 4; a word of length 6) for 11 (things 0, 1, 3). */
    private static void costs(String law, int due) {
        Due.is("cost by " + law, Text.cost(law, 11, 22, 6), due);
    }

    private static void letters() {
        WordYear x = new WordYear();
        x.word(0, 30, 6);
        // Wanted 3, said 30: wanted 2, said 4, both 1, said more 3, wanted more 1.
        String[] laws = {"kw(1=1)", "ks(1=1)", "kb(1=1)", "kx(1=1)", "ky(1=1)", "ka(1=1)", "kc(1=1)", "kl(1=1)"};
        int[] due = {2, 4, 1, 3, 1, 3, 30, 6};
        for (int i = 0; i < 8; i++) {
            Text.near(x, laws[i]);
            Due.is(laws[i], x.sayable(1, 3, 0), 6 + due[i]);
        }
        x.word(0, 2, 1);
        x.word(3, 0, 1);
        Text.near(x, "kl*10(c=30)");
        Due.is("l is what is said, not what is wanted", x.sayable(3, 3, 0), 66);
        Text.near(x, "ky(1=1)");
        Due.is("y of 35 by 30", x.sayable(1, 35, 0), 8);
        Text.near(x, "kx(1=1)");
        Due.is("x of 35 by 30", x.sayable(1, 35, 0), 9);
    }

    private static void numbers() {
        costs("k0(1=1)", 0);
        costs("k1000(1=1)", 1000);
        costs("k1001(1=1)", NOT_NEAR);
        costs("k0-1(1=1)", NOT_NEAR);
        costs("k99999(1=1)", NOT_NEAR);
        costs("k2+3*4(1=1)", 14);
        costs("k[2+3]*4(1=1)", 20);
        costs("k20-5-4(1=1)", 11);
        costs("k20-[5-4](1=1)", 19);
        costs("k100/7/3(1=1)", 4);
        costs("k100/[7/3](1=1)", 50);
        costs("k100%7*3(1=1)", 6);
        costs("k7*100%8(1=1)", 4);
        costs("k2*3+4*5-6/2(1=1)", 23);
        costs("k[0-7]/2+9(1=1)", 6);
        costs("k[0-7]%4+9(1=1)", 6);
        costs("k7%[0-4](1=1)", 3);
        costs("k00012(1=1)", 12);
        // 99999 * 99999 with 32 bits is 1409865409; of that the last three digits.
        costs("k99999*99999%1000(1=1)", 409);
        costs("k65536*32768/[0-1]%1000+900(1=1)", 900 - 648);
        costs("k65536*32768%[0-1](1=1)", 0);
        costs("k65536*65536+3(1=1)", 3);
        costs("k65536*32768-1-65535*32767+5-65535-32767+5(1=1)", 5 + 5 - 1 + 1);
    }

    private static void conditions() {
        costs("k5(1<2)", 5);
        costs("k5(2<2)", NOT_NEAR);
        costs("k5(3>2)", 5);
        costs("k5(2>2)", NOT_NEAR);
        costs("k5(2=2)", 5);
        costs("k5(2=3)", NOT_NEAR);
        costs("k5(0-1<0)", 5);
        costs("k5(!1=2)", 5);
        costs("k5(!!1=2)", NOT_NEAR);
        costs("k5(!1=1|1=1)", 5);
        costs("k5(!(1=1|1=1))", NOT_NEAR);
        costs("k5(!1=2&1=1)", 5);
        costs("k5(1=1|1=1&1=2)", 5);
        costs("k5((1=1|1=1)&1=2)", NOT_NEAR);
        costs("k5(1=2&1=1|1=1)", 5);
        costs("k5(1=2&(1=1|1=1))", NOT_NEAR);
        costs("k5(1=2|1=3|1=1)", 5);
        costs("k5(1=2|1=3|1=4)", NOT_NEAR);
        costs("k5(1=1&2=2&3=3)", 5);
        costs("k5(1=1&2=2&3=4)", NOT_NEAR);
        costs("k5(1=2&2=2&3=3|4=4)", 5);
        costs("k5(1=2);k6(1=1);k7(1=1)", 6);
        costs("k5(1=2);k6(1=2);k7(1=1)", 7);
        // The first whose condition holds, though it costs too much.
        costs("k1001(1=1);k6(1=1)", NOT_NEAR);
        costs("k0-1(1=1);k6(1=1)", NOT_NEAR);
        costs("k5(a=11&c=22&l=6)", 5);
        costs("k5(a<c)", 5);
        costs("k5(a>c)", NOT_NEAR);
    }

    private static void dividedByNothing() {
        costs("k5/0(1=1)", 0);
        costs("k5%0(1=1)", 0);
        costs("k9+5/0(1=1)", 0);
        costs("k9+[5/[2-2]]*0(1=1)", 0);
        costs("k5/0+9(1=1)", 0);
        costs("k0/5+9(1=1)", 9);
        costs("k5(1/0=0)", NOT_NEAR);
        costs("k5(0=1%0)", NOT_NEAR);
        costs("k5(!1/0=0)", NOT_NEAR);
        costs("k5(!1/0=1)", NOT_NEAR);
        costs("k5(!(1/0=1))", NOT_NEAR);
        costs("k5(1/0=0|1=1)", NOT_NEAR);
        costs("k5((1/0=0)|1=1)", NOT_NEAR);
        costs("k5(1=1&!(1=2|1/0=1))", NOT_NEAR);
        costs("k5(1/0=0);k6(1=1)", 6);
        // Only as much is asked as matters.
        costs("k5(1=1|1/0=0)", 5);
        costs("k5(1=2&1/0=0|1=1)", 5);
        costs("k5(!(1=2&1/0=0))", 5);
        costs("k5(1=2|1=2&1/0=0|3=3)", 5);
        costs("k5(1=2&(1/0=0|1=1)|1=1)", 5);
        costs("k5(1=1|2=2&(1/0=0))", 5);
        costs("k5(1=1&(1=1|1/0=0)&2=2)", 5);
        costs("k5(1=1|2=2|1/0=0)", 5);
        costs("k5(1=2&2=2&1/0=0|4=4)", 5);
    }

    private static void choice() {
        WordYear x = new WordYear();
        x.word(0, 7, 9);
        x.word(0, 3, 4);
        x.word(0, 5, 4);
        x.word(0, 6, 3);
        Text.near(x, "k5(y=1&x=0)");
        Due.is("of like ones itself", x.sayable(7, 7, 0), 9);
        Due.is("by itself", x.sayable(7, 7, 1), 7);
        Due.is("a cheaper one", x.sayable(15, 7, 0), 8);
        Due.is("by that", x.sayable(15, 7, 1), 6);
        Due.is("of like others", x.sayable(6, 7, 0), 9);
        Due.is("the lowest", x.sayable(6, 7, 1), 3);
        Due.is("never", x.sayable(6, 56, 0), -2);
        Text.near(x, "k0(1=1)");
        Due.is("all near", x.sayable(15, 56, 0), 3);
        Due.is("by the shortest", x.sayable(15, 56, 1), 6);
        Due.is("the empty tongue says nothing near either", x.sayable(0, 56, 0), -2);
        Text.near(x, "k10-2*l(1=1)");
        Due.is("what is longer may cost less in all", x.sayable(6, 56, 0), 6);
        Due.is("longer ones that cost too little are not near", x.sayable(1, 56, 0), -2);
    }
}
