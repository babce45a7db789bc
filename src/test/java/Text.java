/** Feeds texts, bytes and numbers to an object's tape. */
final class Text {
    /** Far from every cost that a wrong answer could come to. */
    static final int NOT_NEAR = Integer.MIN_VALUE;

    private Text() {
    }

    /** Feeds a text, blanks behind it up to twenty bytes; an empty one feeds nothing. */
    static void feed(WordYear x, String text) {
        int[] bytes = new int[text.length()];
        for (int i = 0; i < bytes.length; i++) {
            bytes[i] = text.charAt(i);
        }
        feedBytes(x, ' ', bytes);
    }

    static void feedBytes(WordYear x, int filler, int... bytes) {
        for (int from = 0; from < bytes.length; from += 20) {
            int[] five = new int[5];
            for (int i = 0; i < 20; i++) {
                int sign = from + i < bytes.length ? bytes[from + i] : filler;
                five[i / 4] = five[i / 4] << 8 | sign & 255;
            }
            x.feed(five[0], five[1], five[2], five[3], five[4]);
        }
    }

    static int near(WordYear x, String text) {
        feed(x, text);
        return x.near(text.length());
    }

    /** What a law costs to say one meaning, by a word so long, for another; NOT_NEAR; or the law's fault. */
    static int cost(String law, int wanted, int said, int length) {
        WordYear x = new WordYear();
        x.word(0, said, length);
        int clauses = near(x, law);
        if (clauses < 1) {
            return clauses;
        }
        int price = x.sayable(1, wanted, 0);
        return price == -2 ? NOT_NEAR : price - length;
    }

    static int law(WordYear x, int i, String text) {
        feed(x, text);
        return x.law(i, text.length());
    }

    static long row(WordYear x, int what, int... words) {
        feedBytes(x, 0, words);
        return x.row(words.length, what);
    }

    static int check(WordYear x, int tongue, int... numbers) {
        int[] bytes = new int[4 * numbers.length];
        for (int i = 0; i < bytes.length; i++) {
            bytes[i] = numbers[i / 4] >>> 24 - 8 * (i % 4) & 255;
        }
        feedBytes(x, 0, bytes);
        return x.check(tongue, numbers.length);
    }
}
