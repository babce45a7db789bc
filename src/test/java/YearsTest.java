/** Promises 19 order, 20 gap, 21 row, 22 till, 23 kept, 24 back. */
final class YearsTest {
    public static void main(String[] args) {
        orderAndGap();
        orderOfLikeOnes();
        orderRefusals();
        row();
        till();
        kept();
        back();
        Due.end("YearsTest");
    }

    private static void orderAndGap() {
        WordYear x = Scene.pair();
        // Talk now 51. Without 0 or 2: 51; without both 1001; without 1: 150.
        Due.is("order(1, NONE)", x.order(1, -1), 51);
        Due.is("order(1, 0)", x.order(1, 0), 0);
        Due.is("order(2, NONE)", x.order(2, -1), 51 + 150);
        Due.is("order(2, 0)", x.order(2, 0), 0);
        Due.is("order(2, 1)", x.order(2, 1), 1);
        Due.is("order(3, NONE)", x.order(3, -1), 51 + 150 + 1100);
        Due.is("order(3, 2)", x.order(3, 2), 2);
        Due.is("gap(1)", x.gap(1), 0);
        Due.is("gap(2)", x.gap(2), 0);
        Due.is("gap(3)", x.gap(3), 0);
        WordYear y = new WordYear();
        y.silence(100);
        y.word(0, 3, 1);
        y.word(0, 1, 1);
        y.word(0, 2, 2);
        y.word(3, 0, 1);
        y.want(0, 3, 10, 0);
        y.want(0, 1, 10, 0);
        // Talk now 20. Without 0: 50 (1, 2 and the OR); without 1: 1010; without 2, 3: 20.
        // Without 2 and 3, then 0 and 1 are 1010 each. Without 2 and 0: 1010.
        Due.is("order(2, NONE)", y.order(2, -1), 40);
        Due.is("order(2, 0)", y.order(2, 0), 2);
        Due.is("order(2, 1)", y.order(2, 1), 3);
        Due.is("order(4, NONE)", y.order(4, -1), 40 + 1010 + 2000);
        Due.is("order(4, 2)", y.order(4, 2), 0);
        greedIsDear();
    }

    /** A word that can be told by two others: the least row takes it, though these are not needed else. */
    private static void greedIsDear() {
        WordYear x = new WordYear();
        x.silence(100);
        x.word(0, 1, 5);
        x.word(0, 62, 4);
        x.word(1, 0, 1);
        x.want(0, 1, 10, 0);
        Due.is("least()", x.least(), 0);
        Due.is("order(1, NONE)", x.order(1, -1), 50);
        Due.is("order(1, 0)", x.order(1, 0), 0);
        Due.is("order(2, NONE)", x.order(2, -1), 50 + 50);
        Due.is("order(2, 0)", x.order(2, 0), 1);
        Due.is("order(2, 1)", x.order(2, 1), 2);
        Due.is("order(3, NONE)", x.order(3, -1), 50 + 50 + 1000);
        Due.is("order(3, 2)", x.order(3, 2), 0);
        Due.is("gap(1)", x.gap(1), 0);
        Due.is("gap(2)", x.gap(2), 950);
        Due.is("gap(3)", x.gap(3), 950);
        x.want(0, 62, 1, 0);
        // Now 54. Without 0 54, without 1 56, without 2 54. Then without 0 and 1 1100, without
        // 0 and 2 1004, without 1 and 2 150. Rows: 0, .. 54 + 1004; 1, 2 56 + 150; 2, 1 54 + 150.
        Due.is("order(2, NONE) then", x.order(2, -1), 204);
        Due.is("order(2, 0) then", x.order(2, 0), 2);
        Due.is("order(2, 1) then", x.order(2, 1), 1);
        Due.is("gap(2) then", x.gap(2), 54 + 1004 - 204);
    }

    private static void orderOfLikeOnes() {
        WordYear x = new WordYear();
        for (int w = 0; w < 10; w++) {
            x.word(0, 1, 1);
        }
        x.strike(2);
        x.want(0, 1, 1, 0);
        int[] due = {0, 1, 3, 4, 5, 6};
        for (int place = 0; place < 6; place++) {
            Due.is("order(6, " + place + ")", x.order(6, place), due[place]);
        }
        Due.is("order(6, NONE)", x.order(6, -1), 6);
        Due.is("gap(6)", x.gap(6), 0);
    }

    private static void orderRefusals() {
        WordYear x = Scene.pair();
        Due.is("order(0, NONE)", x.order(0, -1), -1);
        Due.is("order(-1, NONE)", x.order(-1, -1), -1);
        Due.is("order(4, NONE)", x.order(4, -1), -1);
        Due.is("order(2, 2)", x.order(2, 2), -1);
        Due.is("order(2, -2)", x.order(2, -2), -1);
        Due.is("order(MAX, 0)", x.order(Integer.MAX_VALUE, 0), -1);
        Due.is("gap(0)", x.gap(0), -1);
        Due.is("gap(4)", x.gap(4), -1);
        Due.is("gap(-1)", x.gap(-1), -1);
        x.strike(1);
        Due.is("order(3, NONE) of two", x.order(3, -1), -1);
        Due.is("order(2, NONE) of two", x.order(2, -1), 150 + 1100);
        Due.is("gap(3) of two", x.gap(3), -1);
        for (int w = 3; w < 10; w++) {
            x.word(1, 0, 1);
        }
        Due.is("order(7, NONE) of nine", x.order(7, -1), -1);
        Due.is("gap(7) of nine", x.gap(7), -1);
        Due.is("order(6, NONE) of nine", x.order(6, -1), 6 * 150);
    }

    private static void row() {
        WordYear x = Scene.pair();
        x.want(2, 1, 0, 50);
        x.want(2, 2, 0, 1);
        Due.is("row of 0, 2", Text.row(x, 0, 0, 2), 51 + 1001);
        Due.is("its first place", Text.row(x, 1, 0, 2), 1);
        Due.is("row of 1", Text.row(x, 0, 1), 150);
        Due.is("its first place", Text.row(x, 1, 1), 0);
        Due.is("row of 2", Text.row(x, 1, 2), -1);
        Due.is("row of 2, 1, 0", Text.row(x, 0, 2, 1, 0), 51 + 150 + 1100);
        Due.is("its first place", Text.row(x, 1, 2, 1, 0), 1);
        Due.is("one twice", Text.row(x, 0, 0, 0), -2);
        Due.is("one twice, later", Text.row(x, 1, 0, 2, 0), -2);
        Due.is("no such word", Text.row(x, 0, 3), -2);
        Due.is("no such word at all", Text.row(x, 0, 255), -2);
        Due.is("four of three", Text.row(x, 0, 0, 1, 2, 3), -2);
        Due.is("the tape is empty behind that", x.count(5), 0);
        Due.is("nothing is struck", x.count(1), 7);
        Due.is("row(1, 0) without bytes", x.row(1, 0), -1);
        x.feed(0x00020100, 0, 0, 0, 0);
        Due.is("row(0, 0)", x.row(0, 0), -1);
        Due.is("row(-1, 0)", x.row(-1, 0), -1);
        Due.is("row(11, 0)", x.row(11, 0), -1);
        Due.is("row(1, 2)", x.row(1, 2), -1);
        Due.is("row(1, -1)", x.row(1, -1), -1);
        Due.is("the tape stays", x.count(5), 20);
        Due.is("row(2, 1)", x.row(2, 1), 1);
        Due.is("the tape is empty then", x.count(5), 0);
        x.strike(0);
        Due.is("a struck one", Text.row(x, 0, 0), -2);
        Due.is("row of 2, 0 struck", Text.row(x, 0, 2), 1001);
        WordYear ten = new WordYear();
        for (int w = 0; w < 10; w++) {
            ten.word(0, w, 1);
            ten.want(0, w, 1, 1);
        }
        Due.is("ten words", Text.row(ten, 0, 9, 8, 7, 6, 5, 4, 3, 2, 1, 0), 55 * 1000 + 45);
    }

    private static void till() {
        WordYear x = new WordYear();
        Due.is("till() without words", x.till(), 0);
        x.want(0, 1, 1, 9);
        Due.is("till() without words, a must", x.till(), 0);
        WordYear y = Scene.pair();
        Due.is("no musts: all", y.till(), 3);
        y.want(2, 1, 0, 50);
        Due.is("0, 1, not 2", y.till(), 2);
        y.want(2, 2, 0, 1);
        Due.is("0, not 1", y.till(), 1);
        y.want(2, 4, 0, 1);
        Due.is("a must that can't be anyhow", y.till(), 0);
        WordYear z = Scene.pair();
        z.want(2, 1, 0, 5);
        z.strike(0);
        // The least goes on: 1 (150), then 2.
        Due.is("one is struck already", z.till(), 1);
    }

    private static void kept() {
        WordYear x = Scene.pair();
        Due.is("kept(0, 0)", x.kept(0, 0), 0);
        Due.is("kept(0, 1)", x.kept(0, 1), 1100);
        Due.is("kept(1, 0)", x.kept(1, 0), 1);
        Due.is("kept(1, 1)", x.kept(1, 1), 150);
        Due.is("kept(2, 0)", x.kept(2, 0), 3);
        Due.is("kept(2, 1)", x.kept(2, 1), 51);
        Due.is("kept(3, 0)", x.kept(3, 0), 7);
        Due.is("kept(4, 0)", x.kept(4, 0), -1);
        Due.is("kept(-1, 0)", x.kept(-1, 0), -1);
        Due.is("kept(1, 2)", x.kept(1, 2), -1);
        Due.is("kept(1, -1)", x.kept(1, -1), -1);
        x.strike(0);
        Due.is("a struck one, too", x.kept(1, 0), 1);
        x.often(0, 0);
        Due.is("kept(1, 0) then", x.kept(1, 0), 2);
        Due.is("kept(2, 0), the least set", x.kept(2, 0), 3);
    }

    private static void back() {
        WordYear x = Scene.pair();
        Due.is("none is struck", x.back(0), -1);
        x.strike(0);
        // Back 0 for 1 and 2: talk 150.
        Due.is("back(0)", x.back(0), 0);
        Due.is("back(1)", x.back(1), 1);
        Due.is("back(2)", x.back(2), 2);
        Due.is("back(3)", x.back(3), 150);
        Due.is("back(4)", x.back(4), -1);
        Due.is("back(-1)", x.back(-1), -1);
        x.word(1, 0, 1);
        x.word(2, 0, 1);
        // Back 0: for 1 and 2 150, for 1 and 3 150, for 2 and 3 51, 2 and 4 51, 3 and 4 51.
        Due.is("back(1) then", x.back(1), 2);
        Due.is("back(2) then", x.back(2), 3);
        Due.is("back(3) then", x.back(3), 51);
        x.strike(4);
        // Back 4 for two leaves two of 1, 2, 3 less: 0 for 2 and 3 is 51.
        Due.is("back(0), two are struck", x.back(0), 0);
        Due.is("back(3), two are struck", x.back(3), 51);
        x.often(0, 0);
        x.often(1, 0);
        Due.is("of like ones the least row", x.back(0) * 100 + x.back(1) * 10 + x.back(2), 12);
        x.strike(3);
        x.strike(2);
        Due.is("one is in use", x.back(0), -1);
        WordYear y = Scene.pair();
        y.word(0, 4, 1);
        y.word(0, 8, 1);
        y.strike(1);
        y.strike(3);
        y.want(0, 4, 100, 0);
        // Back 3 for 0 and 4: 50 + 100 + 100. Back 1 for those: 51 + 10000.
        Due.is("the one that is wanted more", y.back(0), 3);
        Due.is("for the lower one", y.back(1), 0);
        Due.is("and the other", y.back(2), 4);
        Due.is("talk then", y.back(3), 250);
        WordYear none = new WordYear();
        Due.is("no words", none.back(0), -1);
    }
}
