/** All promises: arguments far out and just out, in several states, answered by the slow model too. */
final class EdgeTest {
    private static final int[] FAR_OUT = {Integer.MIN_VALUE, -1000000, -65, -2, -1, 0, 1, 2, 3, 4, 5, 6, 7, 9, 10, 11,
        19, 20, 23, 24, 25, 60, 61, 63, 64, 65, 160, 161, 1000, 1023, 1024, 2001, 5000, 5001, 1 << 30, Integer.MAX_VALUE};

    private final WordYear x = new WordYear();
    private final SlowModel model = new SlowModel();
    private final String state;

    private EdgeTest(String state) {
        this.state = state + ": ";
    }

    public static void main(String[] args) {
        new EdgeTest("new").askAll();
        EdgeTest some = new EdgeTest("some words");
        some.fill(4, 3);
        some.askAll();
        EdgeTest many = new EdgeTest("ten words");
        many.fill(10, 24);
        many.askAll();
        EdgeTest struck = new EdgeTest("all words struck");
        struck.fill(5, 5);
        for (int w = 0; w < 5; w++) {
            struck.due("strike", struck.x.strike(w), struck.model.strike(w));
        }
        struck.askAll();
        Due.end("EdgeTest");
    }

    private void fill(int words, int wants) {
        for (int w = 0; w < words; w++) {
            due("word", x.word(w % 5 == 4 ? 1 + w / 5 : 0, 7 * w, 1 + w % 9), model.word(w % 5 == 4 ? 1 + w / 5 : 0, 7 * w, 1 + w % 9));
        }
        for (int i = 0; i < wants; i++) {
            due("want", x.want(i % 4, 5 * i % 64, i, i % 3), model.want(i % 4, 5 * i % 64, i, i % 3));
        }
        x.people(1, 3);
        model.people(1, 3);
    }

    private void due(String call, long got, long want) {
        Due.is(state + call, got, want);
    }

    private void askAll() {
        due("least()", x.least(), model.least());
        due("till()", x.till(), model.till());
        due("round()", x.round(), model.round());
        due("fewest()", x.fewest(), model.fewest());
        for (int a : FAR_OUT) {
            askOne(a);
            for (int b : FAR_OUT) {
                askTwo(a, b);
            }
        }
        for (int a : FAR_OUT) {
            changeByTwo(a, 0);
            changeByTwo(0, a);
            changeByTwo(a, a);
            for (int b : FAR_OUT) {
                askThree(a, b, 0);
                askThree(a, 0, b);
                askThree(0, a, b);
                askThree(b, a, a);
            }
        }
        changeWordsLast();
    }

    private void askOne(int a) {
        String of = "(" + a + ")";
        due("musts" + of, x.musts(a), model.musts(a));
        due("costs" + of, x.costs(a), model.costs(a));
        due("spite" + of, x.spite(a), model.spite(a));
        due("vote" + of, x.vote(a), model.vote(a));
        due("gap" + of, x.gap(a), model.gap(a));
        due("back" + of, x.back(a), model.back(a));
        due("told" + of, x.told(a), model.told(a));
        due("leads" + of, x.leads(a), model.leads(a));
        due("count" + of, x.count(a), model.count(a));
        due("feed" + of, x.feed(a, 0, a, 1, a), model.feed(a, 0, a, 1, a));
        due("near" + of, x.near(a), model.near(a));
    }

    private void askTwo(int a, int b) {
        String of = "(" + a + ", " + b + ")";
        due("brief" + of, x.brief(a, b), model.brief(a, b));
        due("talk" + of, x.talk(a, b), model.talk(a, b));
        due("order" + of, x.order(a, b), model.order(a, b));
        due("kept" + of, x.kept(a, b), model.kept(a, b));
        due("lawIs" + of, x.lawIs(a, b), model.lawIs(a, b));
        due("madeUp" + of, x.madeUp(a, b), model.madeUp(a, b));
        due("row" + of, x.row(a, b), model.row(a, b));
        due("feed" + of, x.feed(0x612b6200, a, b, 0, 0), model.feed(0x612b6200, a, b, 0, 0));
        due("law" + of, x.law(a, b), model.law(a, b));
        due("check" + of, x.check(a, b), model.check(a, b));
    }

    private void changeByTwo(int a, int b) {
        String of = "(" + a + ", " + b + ")";
        due("people" + of, x.people(a, b) ? 1 : 0, model.people(a, b) ? 1 : 0);
        due("often" + of, x.often(a, b) ? 1 : 0, model.often(a, b) ? 1 : 0);
        due("silence" + of, x.silence(a) ? 1 : 0, model.silence(a) ? 1 : 0);
    }

    private void askThree(int a, int b, int c) {
        String of = "(" + a + ", " + b + ", " + c + ")";
        due("how" + of, x.how(a, b, c), model.how(a, b, c));
        due("sayable" + of, x.sayable(a, b, c), model.sayable(a, b, c));
    }

    private void changeWordsLast() {
        for (int a : FAR_OUT) {
            due("want(" + a + ", ..)", x.want(a, 1, 1, 1), model.want(a, 1, 1, 1));
            due("want(0, " + a + ", ..)", x.want(0, a, 1, 1), model.want(0, a, 1, 1));
            due("want(0, 1, " + a + ", ..)", x.want(0, 1, a, 1), model.want(0, 1, a, 1));
            due("want(0, 1, 1, " + a + ")", x.want(0, 1, 1, a), model.want(0, 1, 1, a));
            due("word(" + a + ", ..)", x.word(a, 1, 1), model.word(a, 1, 1));
            due("word(0, " + a + ", 1)", x.word(0, a, 1), model.word(0, a, 1));
            due("word(0, 1, " + a + ")", x.word(0, 1, a), model.word(0, 1, a));
            due("strike(" + a + ")", x.strike(a), model.strike(a));
        }
        for (int what = 0; what < 25; what++) {
            due("count(" + what + ")", x.count(what), model.count(what));
        }
    }
}
