/** Objects that several tests begin with. */
final class Scene {
    private Scene() {
    }

    /** A word, one long, for each of these meanings. */
    static WordYear of(int... meanings) {
        WordYear x = new WordYear();
        for (int meaning : meanings) {
            x.word(0, meaning, 1);
        }
        return x;
    }

    /** Words 0 to 3 for the meanings 1, 2, 4, 8; a sort's row is by how often it wants each. */
    static WordYear four() {
        return of(1, 2, 4, 8);
    }

    /** Lets a sort of so many have this row of words of four(), the first one wanted least. */
    static void row(WordYear x, int sort, int n, int... row) {
        x.people(sort, n);
        for (int i = 0; i < row.length; i++) {
            x.want(sort, 1 << row[i], i + 1, 0);
        }
    }

    /** Two words of 5 for one meaning that is wanted 10 times, one of 1 for one that is wanted once. */
    static WordYear pair() {
        WordYear x = new WordYear();
        x.word(0, 1, 5);
        x.word(0, 2, 1);
        x.word(0, 1, 5);
        x.silence(100);
        x.want(0, 1, 10, 0);
        x.want(1, 2, 1, 0);
        return x;
    }

    /** Ten words of one meaning. */
    static WordYear ten() {
        return of(1, 1, 1, 1, 1, 1, 1, 1, 1, 1);
    }
}
