/** Promise 18: vote. */
final class VoteTest {
    public static void main(String[] args) {
        refusals();
        fourWays();
        ties();
        runoff();
        halves();
        Due.end("VoteTest");
    }

    private static void votes(WordYear x, int... due) {
        for (int way = 0; way < 4; way++) {
            Due.is("vote(" + way + ")", x.vote(way), due[way]);
        }
    }

    private static void refusals() {
        WordYear x = new WordYear();
        x.people(0, 3);
        votes(x, -1, -1, -1, -1);
        x.word(0, 5, 2);
        votes(x, 0, 0, 0, 0);
        Due.is("vote(4)", x.vote(4), -1);
        Due.is("vote(-1)", x.vote(-1), -1);
        x.people(0, 0);
        votes(x, -1, -1, -1, -1);
        x.people(3, 1);
        votes(x, 0, 0, 0, 0);
        x.strike(0);
        votes(x, -1, -1, -1, -1);
    }

    private static void fourWays() {
        WordYear x = Scene.four();
        Scene.row(x, 0, 7, 0, 3, 2, 1);
        Scene.row(x, 1, 6, 1, 2, 3, 0);
        Scene.row(x, 2, 5, 2, 3, 1, 0);
        Scene.row(x, 3, 1, 3, 2, 1, 0);
        // First: 7, 6, 5, 1. Between 0 and 1: 7 to 12. Points of 0: 21, of 1: 18 + 5 + 1 = 24,
        // of 2: 7 + 12 + 15 + 2 = 36, of 3: 14 + 6 + 10 + 3 = 33.
        // 2 is ahead of 0 with 12, of 1 with 13, of 3 with 11, of 19 in all.
        votes(x, 0, 1, 2, 2);
        x.people(3, 3);
        // Of 21: 2 is ahead of 3 with 11, of 0 with 14, of 1 with 15.
        votes(x, 0, 1, 2, 2);
        x.people(3, 4);
        // Of 22: 2 is ahead of 3 with 11, which is not more than half.
        votes(x, 0, 1, 2, -1);
        x.strike(2);
        // 0: 7, 1: 6, 3: 9. Between 3 and 0: 15 to 7. Points of 3: 7 + 6 + 10 + 8.
        votes(x, 3, 3, 3, 3);
    }

    private static void ties() {
        WordYear x = Scene.four();
        x.people(1, 2);
        // All grows by nothing: rows by number.
        votes(x, 0, 0, 0, 0);
        WordYear y = Scene.four();
        Scene.row(y, 0, 3, 1, 0, 2, 3);
        Scene.row(y, 2, 3, 0, 1, 2, 3);
        // Like many are first, ahead and so on: 0, and nobody by more than half.
        votes(y, 0, 0, 0, -1);
        y.people(0, 4);
        votes(y, 1, 1, 1, 1);
        y.strike(1);
        votes(y, 0, 0, 0, 0);
    }

    private static void runoff() {
        WordYear x = Scene.four();
        Scene.row(x, 0, 5, 3, 2, 1, 0);
        Scene.row(x, 1, 2, 2, 1, 3, 0);
        Scene.row(x, 2, 2, 1, 2, 3, 0);
        // First 3 with 5; then 1 and 2 with 2 each: 1 comes against 3, 4 to 5.
        Due.is("3 stays", x.vote(1), 3);
        x.people(0, 4);
        // 4 to 4: the first.
        Due.is("as many: the first", x.vote(1), 3);
        x.people(0, 3);
        Due.is("1, the lowest of the second ones", x.vote(1), 1);
        x.people(1, 3);
        // 2 and 3 are first with 3 each: 2 is the first, 3 the second; 5 to 3.
        Due.is("2 against 3", x.vote(1), 2);
        WordYear y = Scene.four();
        Scene.row(y, 0, 1, 2, 0, 1, 3);
        // Only 2 is first with anybody: the second is 0, with none.
        Due.is("2 against 0", y.vote(1), 2);
        WordYear z = Scene.four();
        Scene.row(z, 0, 4, 3, 0, 1, 2);
        Scene.row(z, 1, 3, 2, 0, 1, 3);
        Scene.row(z, 2, 2, 1, 2, 0, 3);
        // The second is by the rows as they are (2 with 3), not by rows without 3 (0 with 4).
        // 2 against 3: 5 to 4. (0 against 3 would be 5 to 4 for 0.)
        Due.is("2 against 3, not 0", z.vote(1), 2);
    }

    private static void halves() {
        WordYear x = Scene.four();
        Scene.row(x, 0, 1, 0, 1, 2, 3);
        Scene.row(x, 1, 1, 1, 2, 0, 3);
        Scene.row(x, 2, 1, 2, 0, 1, 3);
        // Each of the three is behind another with two of three.
        Due.is("a circle", x.vote(3), -1);
        Due.is("points 6 each", x.vote(2), 0);
        x.people(1, 2);
        // 1 is ahead of 0 with 2 of 4.
        Due.is("a half is not more than half", x.vote(3), -1);
        x.people(1, 3);
        Due.is("more than half", x.vote(3), 1);
        x.people(3, 1);
        // Sort 3 wants nothing: 0, 1, 2, 3. 1 is ahead of 0 with 3 of 6.
        Due.is("those who want nothing vote, too", x.vote(3), -1);
        x.people(0, 1000);
        x.people(1, 1000);
        x.people(2, 1000);
        x.people(3, 1000);
        Due.is("points of many", x.vote(2), 0);
        Due.is("first with many", x.vote(0), 0);
    }
}
