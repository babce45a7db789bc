import java.util.Random;

/** All promises: runs of calls by chance (always the same ones), answered by the slow model too. */
final class CompareTest {
    private static final int RUNS = 300;

    private final Random chance;
    private final WordYear x = new WordYear();
    private final SlowModel model = new SlowModel();
    private final String run;
    private int words;

    private CompareTest(int seed) {
        chance = new Random(seed);
        run = "run " + seed + ": ";
    }

    public static void main(String[] args) {
        int runs = args.length > 0 ? Integer.parseInt(args[0]) : RUNS;
        int from = args.length > 1 ? Integer.parseInt(args[1]) : 0;
        for (int seed = from; seed < from + runs; seed++) {
            new CompareTest(seed).go();
        }
        Due.end("CompareTest");
    }

    private void go() {
        int first = chance.nextInt(11);
        for (int i = 0; i < first; i++) {
            addWord();
        }
        int wants = chance.nextInt(12);
        for (int i = 0; i < wants; i++) {
            addWant();
        }
        for (int s = 0; s < 4; s++) {
            if (chance.nextInt(3) > 0) {
                setPeople(s, chance.nextInt(6));
            }
        }
        int calls = 20 + chance.nextInt(120);
        for (int i = 0; i < calls; i++) {
            call(chance.nextInt(36));
        }
    }

    /** Mostly from low to high, sometimes just outside, seldom anything. */
    private int about(int low, int high) {
        int dice = chance.nextInt(40);
        if (dice == 0) {
            return chance.nextInt();
        }
        if (dice == 1) {
            return low - 1;
        }
        if (dice == 2) {
            return high + 1;
        }
        return low + chance.nextInt(Math.max(1, high - low + 1));
    }

    private int tongue() {
        return chance.nextInt(4) == 0 ? model.count(1) : about(0, (1 << words) - 1);
    }

    private void due(String call, long got, long want) {
        Due.is(run + call, got, want);
    }

    private void addWord() {
        int kind = chance.nextInt(5) < 3 ? 0 : about(0, 3);
        int meaning = chance.nextInt(3) == 0 ? 1 << chance.nextInt(6) : about(0, 63);
        int length = about(1, 9);
        due("word(" + kind + ", " + meaning + ", " + length + ")", x.word(kind, meaning, length),
                model.word(kind, meaning, length));
        words = model.count(0);
    }

    private void addWant() {
        int sort = about(0, 3);
        int meaning = about(0, 63);
        int often = about(0, chance.nextInt(3) == 0 ? 1000 : 9);
        int must = chance.nextInt(3) == 0 ? about(0, chance.nextInt(2) == 0 ? 2000 : 40) : 0;
        due("want(" + sort + ", " + meaning + ", " + often + ", " + must + ")",
                x.want(sort, meaning, often, must), model.want(sort, meaning, often, must));
    }

    private void setPeople(int sort, int n) {
        Due.is(run + "people(" + sort + ", " + n + ")", x.people(sort, n), model.people(sort, n));
    }

    private void feedBytes(int[] bytes) {
        for (int from = 0; from < bytes.length; from += 20) {
            int[] five = new int[5];
            for (int i = 0; i < 20; i++) {
                int sign = from + i < bytes.length ? bytes[from + i] : chance.nextInt(3) == 0 ? 0 : ' ';
                five[i / 4] = five[i / 4] << 8 | sign & 255;
            }
            due("feed(" + five[0] + ", " + five[1] + ", " + five[2] + ", " + five[3] + ", " + five[4] + ")",
                    x.feed(five[0], five[1], five[2], five[3], five[4]), model.feed(five));
        }
    }

    private void feedText(String text) {
        int[] bytes = new int[text.length()];
        for (int i = 0; i < bytes.length; i++) {
            bytes[i] = text.charAt(i);
        }
        feedBytes(bytes);
    }

    private String spoilt(String text, String signs) {
        StringBuilder some = new StringBuilder(text);
        int spoils = chance.nextInt(3) == 0 ? 1 + chance.nextInt(2) : 0;
        for (int i = 0; i < spoils; i++) {
            int at = chance.nextInt(some.length() + 1);
            char sign = chance.nextInt(12) == 0 ? (char) chance.nextInt(256)
                    : signs.charAt(chance.nextInt(signs.length()));
            int way = chance.nextInt(3);
            if (way == 0 || at == some.length()) {
                some.insert(at, sign);
            } else if (way == 1) {
                some.setCharAt(at, sign);
            } else {
                some.deleteCharAt(at);
            }
        }
        return some.toString();
    }

    private String number(int depth) {
        int dice = chance.nextInt(depth > 5 ? 4 : 6);
        if (dice < 2) {
            return "" + chance.nextInt(chance.nextInt(8) == 0 ? 100000 : 9);
        }
        if (dice < 4) {
            return "" + "wsbxyacl".charAt(chance.nextInt(8));
        }
        if (dice == 4) {
            return "[" + number(depth + 1) + "]";
        }
        return number(depth + 1) + "+-*/%".charAt(chance.nextInt(5)) + number(depth + 1);
    }

    private String condition(int depth) {
        int dice = chance.nextInt(depth > 5 ? 3 : 7);
        if (dice < 3) {
            return number(depth + 2) + "<>=".charAt(chance.nextInt(3)) + number(depth + 2);
        }
        if (dice == 3) {
            return "!" + condition(depth + 1);
        }
        if (dice == 4) {
            return "(" + condition(depth + 1) + ")";
        }
        return condition(depth + 1) + (chance.nextBoolean() ? "&" : "|") + condition(depth + 1);
    }

    private void tellNear() {
        StringBuilder text = new StringBuilder();
        int clauses = chance.nextInt(20) == 0 ? 13 : 1 + chance.nextInt(3);
        for (int i = 0; i < clauses; i++) {
            text.append(i == 0 ? "" : ";").append('k');
            text.append(clauses > 12 ? "1" : number(2)).append('(').append(clauses > 12 ? "w=0" : condition(2)).append(')');
        }
        String some = spoilt(text.toString(), "k();|&!<>=+-*/%[]0123456789wsbxyacl");
        feedText(some);
        int n = chance.nextInt(12) == 0 ? about(1, 160) : some.length();
        due("near(" + n + ") of " + some, x.near(n), model.near(n));
    }

    private String law(int depth) {
        int dice = chance.nextInt(depth > 5 ? 2 : 6);
        if (dice < 2) {
            return "" + (char) ('a' + chance.nextInt(Math.max(1, words)));
        }
        if (dice == 2) {
            return "-" + law(depth + 1);
        }
        if (dice == 3) {
            return "(" + law(depth + 1) + ")";
        }
        return law(depth + 1) + (dice == 4 ? "+" : "") + law(depth + 1);
    }

    private void tellLaw() {
        String some = spoilt(law(0), "+-()abcdefghijk");
        feedText(some);
        int i = about(0, 3);
        int n = chance.nextInt(12) == 0 ? about(1, 60) : some.length();
        due("law(" + i + ", " + n + ") of " + some, x.law(i, n), model.law(i, n));
    }

    private void tellRow() {
        int n = about(1, Math.max(1, Math.min(10, words)));
        int[] row = new int[10];
        for (int i = 0; i < 10; i++) {
            row[i] = i;
        }
        for (int i = 9; i > 0; i--) {
            int j = chance.nextInt(i + 1);
            int kept = row[i];
            row[i] = row[j];
            row[j] = kept;
        }
        if (words > 0) {
            int kept = 0;
            int[] known = new int[10];
            for (int w : row) {
                if (w < words && (chance.nextInt(10) == 0 || (model.count(1) >> w & 1) == 1)) {
                    known[kept++] = w;
                }
            }
            row = known;
        }
        feedBytes(row);
        int what = about(0, 1);
        due("row(" + n + ", " + what + ")", x.row(n, what), model.row(n, what));
    }

    private void tellCheck() {
        int tongue = tongue();
        int n = about(0, chance.nextInt(3) == 0 ? 64 : 9);
        int[] bytes = new int[Math.max(0, Math.min(64, n)) * 4];
        for (int i = 0; i < bytes.length; i++) {
            bytes[i] = model.brief(tongue, i / 4) >>> 24 - 8 * (i % 4) & 255;
        }
        if (bytes.length > 0 && chance.nextInt(3) == 0) {
            bytes[chance.nextInt(bytes.length)] ^= 1 << chance.nextInt(8);
        }
        feedBytes(bytes);
        due("check(" + tongue + ", " + n + ")", x.check(tongue, n), model.check(tongue, n));
    }

    private void call(int which) {
        int t = tongue();
        int m = about(0, 63);
        int w = about(0, Math.max(0, words - 1));
        switch (which) {
            case 0 -> addWord();
            case 1 -> setPeople(about(0, 3), about(0, chance.nextInt(2) == 0 ? 5 : 1000));
            case 2 -> addWant();
            case 3 -> {
                int i = about(0, Math.max(0, model.count(3) - 1));
                int n = about(0, chance.nextInt(2) == 0 ? 5 : 1000);
                Due.is(run + "often(" + i + ", " + n + ")", x.often(i, n), model.often(i, n));
            }
            case 4 -> {
                int n = about(0, chance.nextInt(2) == 0 ? 50 : 5000);
                Due.is(run + "silence(" + n + ")", x.silence(n), model.silence(n));
            }
            case 5 -> feedBytes(new int[20 * (1 + chance.nextInt(3))]);
            case 6, 7, 8 -> tellNear();
            case 9 -> due("brief(" + t + ", " + m + ")", x.brief(t, m), model.brief(t, m));
            case 10, 11 -> {
                int what = about(0, 2);
                due("how(" + t + ", " + m + ", " + what + ")", x.how(t, m, what), model.how(t, m, what));
            }
            case 12, 13 -> {
                int what = about(0, 1);
                due("sayable(" + t + ", " + m + ", " + what + ")", x.sayable(t, m, what), model.sayable(t, m, what));
            }
            case 14 -> {
                int sort = about(-1, 3);
                due("talk(" + t + ", " + sort + ")", x.talk(t, sort), model.talk(t, sort));
            }
            case 15 -> due("musts(" + t + ")", x.musts(t), model.musts(t));
            case 16 -> {
                if (chance.nextInt(3) == 0) {
                    due("strike(" + w + ")", x.strike(w), model.strike(w));
                }
            }
            case 17 -> due("costs(" + w + ")", x.costs(w), model.costs(w));
            default -> callMore(which, w);
        }
    }

    private void callMore(int which, int w) {
        switch (which) {
            case 18 -> due("least()", x.least(), model.least());
            case 19 -> {
                int sort = about(0, 3);
                due("spite(" + sort + ")", x.spite(sort), model.spite(sort));
            }
            case 20, 21 -> {
                int way = about(0, 3);
                due("vote(" + way + ")", x.vote(way), model.vote(way));
            }
            case 22 -> {
                int n = about(1, chance.nextInt(6) == 0 ? 6 : 4);
                int what = about(-1, n - 1);
                due("order(" + n + ", " + what + ")", x.order(n, what), model.order(n, what));
            }
            case 23 -> {
                int n = about(1, chance.nextInt(6) == 0 ? 6 : 4);
                due("gap(" + n + ")", x.gap(n), model.gap(n));
            }
            case 24 -> tellRow();
            case 25 -> due("till()", x.till(), model.till());
            case 26 -> {
                int n = about(0, words);
                int what = about(0, 1);
                due("kept(" + n + ", " + what + ")", x.kept(n, what), model.kept(n, what));
            }
            case 27 -> {
                int what = about(0, 3);
                due("back(" + what + ")", x.back(what), model.back(what));
            }
            case 28 -> due("told(" + w + ")", x.told(w), model.told(w));
            case 29 -> due("leads(" + w + ")", x.leads(w), model.leads(w));
            case 30 -> due("round()", x.round(), model.round());
            case 31 -> due("fewest()", x.fewest(), model.fewest());
            case 32 -> tellLaw();
            case 33 -> {
                int i = about(0, 3);
                int what = about(0, 3);
                due("lawIs(" + i + ", " + what + ")", x.lawIs(i, what), model.lawIs(i, what));
            }
            case 34 -> {
                int length = about(1, 9);
                int what = about(0, 1);
                due("madeUp(" + length + ", " + what + ")", x.madeUp(length, what), model.madeUp(length, what));
            }
            default -> {
                tellCheck();
                int what = about(0, 23);
                due("count(" + what + ")", x.count(what), model.count(what));
            }
        }
    }
}
