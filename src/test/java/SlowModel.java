import java.util.ArrayList;
import java.util.Comparator;
import java.util.HashMap;
import java.util.List;
import java.util.Map;
import java.util.TreeSet;

/** The document once more, word by word and without any cleverness, to compare answers with. */
final class SlowModel {
    private static final class Fault extends Exception {
        private static final long serialVersionUID = 1L;
        final int answer;

        Fault(int number, int place) {
            answer = -1000 * number - place;
        }
    }

    private static final class Refused extends RuntimeException {
        private static final long serialVersionUID = 1L;
    }

    private interface Number {
        int of(Map<Character, Integer> letters);
    }

    private interface Condition {
        boolean of(Map<Character, Integer> letters);
    }

    private record Clause(Number cost, Condition when) {
    }

    private record Word(int kind, int meaning, int length) {
    }

    private static final class Want {
        int sort;
        int meaning;
        int often;
        int must;
    }

    private final List<Word> words = new ArrayList<>();
    private final List<Integer> years = new ArrayList<>();
    private final List<Want> wants = new ArrayList<>();
    private final List<Integer> tape = new ArrayList<>();
    private final int[] people = new int[4];
    private final String[] laws = new String[4];
    private List<Clause> clauses = new ArrayList<>();
    private int year = 0;
    private int silence = 1000;
    /** Forgotten whenever anything changes. */
    private final Map<Integer, int[]> briefs = new HashMap<>();
    private final Map<Long, Long> talks = new HashMap<>();
    private final Map<Integer, int[]> sayables = new HashMap<>();

    private void forget() {
        briefs.clear();
        talks.clear();
        sayables.clear();
    }

    int word(int kind, int meaning, int length) {
        if (kind < 0 || kind > 3 || meaning < 0 || meaning > 63 || length < 1 || length > 9 || words.size() == 10) {
            return -1;
        }
        forget();
        words.add(new Word(kind, meaning, length));
        years.add(-1);
        return words.size() - 1;
    }

    boolean people(int sort, int n) {
        if (sort < 0 || sort > 3 || n < 0 || n > 1000) {
            return false;
        }
        people[sort] = n;
        return true;
    }

    int want(int sort, int meaning, int often, int must) {
        if (sort < 0 || sort > 3 || meaning < 0 || meaning > 63 || often < 0 || often > 1000
                || must < 0 || must > 2000 || wants.size() == 24) {
            return -1;
        }
        forget();
        Want want = new Want();
        want.sort = sort;
        want.meaning = meaning;
        want.often = often;
        want.must = must;
        wants.add(want);
        return wants.size() - 1;
    }

    boolean often(int i, int n) {
        if (i < 0 || i >= wants.size() || n < 0 || n > 1000) {
            return false;
        }
        forget();
        wants.get(i).often = n;
        return true;
    }

    boolean silence(int n) {
        if (n < 0 || n > 5000) {
            return false;
        }
        forget();
        silence = n;
        return true;
    }

    int feed(int... five) {
        if (tape.size() + 20 > 300) {
            return -1;
        }
        for (int number : five) {
            tape.add(number >>> 24);
            tape.add(number >>> 16 & 255);
            tape.add(number >>> 8 & 255);
            tape.add(number & 255);
        }
        return tape.size();
    }

    private String takeText(int n) {
        StringBuilder text = new StringBuilder();
        for (int i = 0; i < n; i++) {
            text.append((char) (int) tape.get(i));
        }
        tape.clear();
        return text.toString();
    }

    int near(int n) {
        if (n < 1 || n > 160 || tape.size() < n) {
            return -1;
        }
        try {
            clauses = new NearText(takeText(n)).clauses();
            forget();
            return clauses.size();
        } catch (Fault fault) {
            return fault.answer;
        }
    }

    private boolean isTongue(int tongue) {
        return tongue >= 0 && tongue < 1 << words.size();
    }

    private static boolean isMeaning(int meaning) {
        return meaning >= 0 && meaning < 64;
    }

    private List<Word> wordsOf(int tongue) {
        List<Word> some = new ArrayList<>();
        for (int w = 0; w < words.size(); w++) {
            if ((tongue >> w & 1) == 1) {
                some.add(words.get(w));
            }
        }
        return some;
    }

    private static int joint(List<Word> some, int kind) {
        int least = -1;
        for (Word word : some) {
            if (word.kind() == kind && (least == -1 || word.length() < least)) {
                least = word.length();
            }
        }
        return least;
    }

    /** Again and again all ways to say all meanings, till nothing becomes shorter. */
    private static int[] briefs(List<Word> some) {
        int[] brief = new int[64];
        java.util.Arrays.fill(brief, -2);
        int not = joint(some, 1);
        int and = joint(some, 2);
        int or = joint(some, 3);
        boolean changed = true;
        while (changed) {
            changed = false;
            for (Word word : some) {
                if (word.kind() == 0) {
                    changed |= lower(brief, word.meaning(), word.length());
                }
            }
            for (int a = 0; a < 64; a++) {
                if (brief[a] != -2 && not != -1) {
                    changed |= lower(brief, 63 - a, brief[a] + not);
                }
                for (int b = 0; b < 64; b++) {
                    if (brief[a] != -2 && brief[b] != -2 && and != -1) {
                        changed |= lower(brief, a & b, brief[a] + brief[b] + and);
                    }
                    if (brief[a] != -2 && brief[b] != -2 && or != -1) {
                        changed |= lower(brief, a | b, brief[a] + brief[b] + or);
                    }
                }
            }
        }
        return brief;
    }

    private static boolean lower(int[] brief, int meaning, int length) {
        if (brief[meaning] == -2 || length < brief[meaning]) {
            brief[meaning] = length;
            return true;
        }
        return false;
    }

    private int[] briefs(int tongue) {
        return briefs.computeIfAbsent(tongue, t -> briefs(wordsOf(t)));
    }

    int brief(int tongue, int meaning) {
        return isTongue(tongue) && isMeaning(meaning) ? briefs(tongue)[meaning] : -1;
    }

    /** Kind, and the word or the first meaning, and the second meaning or -1. */
    private int[] manner(int tongue, int meaning) {
        int[] brief = briefs(tongue);
        List<Word> some = wordsOf(tongue);
        for (int w = 0; w < words.size(); w++) {
            Word word = words.get(w);
            if ((tongue >> w & 1) == 1 && word.kind() == 0 && word.meaning() == meaning
                    && word.length() == brief[meaning]) {
                return new int[] {0, w, -1};
            }
        }
        int not = joint(some, 1);
        if (not != -1 && brief[63 - meaning] != -2 && brief[63 - meaning] + not == brief[meaning]) {
            return new int[] {1, 63 - meaning, -1};
        }
        for (int kind = 2; kind <= 3; kind++) {
            int join = joint(some, kind);
            for (int a = 0; a < 64 && join != -1; a++) {
                for (int b = a; b < 64; b++) {
                    int made = kind == 2 ? a & b : a | b;
                    if (made == meaning && brief[a] != -2 && brief[b] != -2
                            && brief[a] + brief[b] + join == brief[meaning]) {
                        return new int[] {kind, a, b};
                    }
                }
            }
        }
        throw new IllegalStateException("said and not said");
    }

    int how(int tongue, int meaning, int what) {
        if (!isTongue(tongue) || !isMeaning(meaning) || what < 0 || what > 2) {
            return -1;
        }
        return briefs(tongue)[meaning] == -2 ? -2 : manner(tongue, meaning)[what];
    }

    /** How much, and by which meaning; null: never. */
    private int[] sayable(int[] brief, int meaning) {
        int[] best = null;
        if (brief[meaning] != -2) {
            best = new int[] {brief[meaning], meaning};
        }
        for (int said = 0; said < 64; said++) {
            if (said != meaning && brief[said] != -2) {
                int extra = extra(meaning, said, brief[said]);
                if (extra >= 0 && extra <= 1000 && (best == null || brief[said] + extra < best[0])) {
                    best = new int[] {brief[said] + extra, said};
                }
            }
        }
        return best;
    }

    private int extra(int wanted, int said, int length) {
        Map<Character, Integer> letters = new HashMap<>();
        for (char letter : "wsbxy".toCharArray()) {
            letters.put(letter, 0);
        }
        for (int thing = 0; thing < 6; thing++) {
            boolean isWanted = (wanted >> thing & 1) == 1;
            boolean isSaid = (said >> thing & 1) == 1;
            letters.merge('w', isWanted ? 1 : 0, Integer::sum);
            letters.merge('s', isSaid ? 1 : 0, Integer::sum);
            letters.merge('b', isWanted && isSaid ? 1 : 0, Integer::sum);
            letters.merge('x', isSaid && !isWanted ? 1 : 0, Integer::sum);
            letters.merge('y', isWanted && !isSaid ? 1 : 0, Integer::sum);
        }
        letters.put('a', wanted);
        letters.put('c', said);
        letters.put('l', length);
        for (Clause clause : clauses) {
            if (holds(clause.when(), letters)) {
                return cost(clause.cost(), letters);
            }
        }
        return -1;
    }

    private static boolean holds(Condition when, Map<Character, Integer> letters) {
        try {
            return when.of(letters);
        } catch (Refused refused) {
            return false;
        }
    }

    private static int cost(Number cost, Map<Character, Integer> letters) {
        try {
            return cost.of(letters);
        } catch (Refused refused) {
            return 0;
        }
    }

    private int[] sayable(int tongue, int meaning) {
        int key = tongue * 64 + meaning;
        if (!sayables.containsKey(key)) {
            sayables.put(key, sayable(briefs(tongue), meaning));
        }
        return sayables.get(key);
    }

    int sayable(int tongue, int meaning, int what) {
        if (!isTongue(tongue) || !isMeaning(meaning) || what < 0 || what > 1) {
            return -1;
        }
        int[] said = sayable(tongue, meaning);
        return said == null ? -2 : said[what];
    }

    private long talked(int tongue, int sort) {
        long key = tongue * 10L + sort + 1;
        if (!talks.containsKey(key)) {
            long sum = 0;
            for (Want want : wants) {
                if (sort == -1 || want.sort == sort) {
                    int[] said = sayable(tongue, want.meaning);
                    sum += (long) want.often * (said == null ? silence : Math.min(silence, said[0]));
                }
            }
            talks.put(key, sum);
        }
        return talks.get(key);
    }

    long talk(int tongue, int sort) {
        return isTongue(tongue) && sort >= -1 && sort <= 3 ? talked(tongue, sort) : -1;
    }

    int musts(int tongue) {
        if (!isTongue(tongue)) {
            return -1;
        }
        int bits = 0;
        for (int i = 0; i < wants.size(); i++) {
            int[] said = sayable(tongue, wants.get(i).meaning);
            if (wants.get(i).must != 0 && (said == null || said[0] > wants.get(i).must)) {
                bits += 1 << i;
            }
        }
        return bits;
    }

    private boolean inUse(int w) {
        return w >= 0 && w < words.size() && years.get(w) == -1;
    }

    private List<Integer> used() {
        List<Integer> used = new ArrayList<>();
        for (int w = 0; w < words.size(); w++) {
            if (inUse(w)) {
                used.add(w);
            }
        }
        return used;
    }

    private int now() {
        int bits = 0;
        for (int w : used()) {
            bits += 1 << w;
        }
        return bits;
    }

    int strike(int w) {
        if (!inUse(w)) {
            return -1;
        }
        years.set(w, year);
        year++;
        return year - 1;
    }

    long costs(int w) {
        return inUse(w) ? talked(now() - (1 << w), -1) - talked(now(), -1) : -1000000000;
    }

    private int leastOf(int tongue) {
        int best = -1;
        for (int w = 9; w >= 0; w--) {
            if ((tongue >> w & 1) == 1
                    && (best == -1 || talked(tongue - (1 << w), -1) <= talked(tongue - (1 << best), -1))) {
                best = w;
            }
        }
        return best;
    }

    int least() {
        return leastOf(now());
    }

    int spite(int sort) {
        if (sort < 0 || sort > 3) {
            return -1;
        }
        int best = -1;
        long most = Long.MIN_VALUE;
        for (int w : used()) {
            long value = 0;
            for (int s = 0; s < 4; s++) {
                long grows = talked(now() - (1 << w), s) - talked(now(), s);
                value += s == sort ? -3 * grows : grows;
            }
            if (value > most) {
                most = value;
                best = w;
            }
        }
        return best;
    }

    private List<Integer> rowOf(int sort) {
        List<Integer> row = used();
        row.sort(Comparator.comparingLong((Integer w) -> talked(now() - (1 << w), sort)).thenComparing(w -> w));
        return row;
    }

    private int votersAhead(int w, int other) {
        int voters = 0;
        for (int s = 0; s < 4; s++) {
            List<Integer> row = rowOf(s);
            voters += row.indexOf(w) < row.indexOf(other) ? people[s] : 0;
        }
        return voters;
    }

    private int mostFirst(List<Integer> of) {
        int best = -1;
        int most = -1;
        for (int w : of) {
            int votes = 0;
            for (int s = 0; s < 4; s++) {
                votes += rowOf(s).get(0) == w ? people[s] : 0;
            }
            if (votes > most) {
                most = votes;
                best = w;
            }
        }
        return best;
    }

    int vote(int way) {
        int voters = people[0] + people[1] + people[2] + people[3];
        List<Integer> used = used();
        if (way < 0 || way > 3 || voters == 0 || used.isEmpty()) {
            return -1;
        }
        if (way == 0) {
            return mostFirst(used);
        }
        if (way == 1) {
            int first = mostFirst(used);
            used.remove((Integer) first);
            int second = mostFirst(used);
            return second != -1 && votersAhead(second, first) > votersAhead(first, second) ? second : first;
        }
        int best = -1;
        int most = -1;
        for (int w : used) {
            int points = 0;
            boolean aheadOfAll = true;
            for (int v : used) {
                if (v != w) {
                    points += votersAhead(w, v);
                    aheadOfAll &= 2 * votersAhead(w, v) > voters;
                }
            }
            if (way == 3 && aheadOfAll) {
                return w;
            }
            if (way == 2 && points > most) {
                most = points;
                best = w;
            }
        }
        return best;
    }

    private long bestSum;
    private List<Integer> bestRow;

    private void tryRows(int tongue, int n, List<Integer> row, long sum) {
        if (row.size() == n) {
            if (bestRow == null || sum < bestSum) {
                bestSum = sum;
                bestRow = new ArrayList<>(row);
            }
            return;
        }
        for (int w = 0; w < 10; w++) {
            if ((tongue >> w & 1) == 1) {
                row.add(w);
                tryRows(tongue - (1 << w), n, row, sum + talked(tongue - (1 << w), -1));
                row.remove(row.size() - 1);
            }
        }
    }

    long order(int n, int what) {
        if (n < 1 || n > 6 || used().size() < n || what < -1 || what >= n) {
            return -1;
        }
        bestRow = null;
        tryRows(now(), n, new ArrayList<>(), 0);
        return what == -1 ? bestSum : bestRow.get(what);
    }

    long gap(int n) {
        if (n < 1 || n > 6 || used().size() < n) {
            return -1;
        }
        int tongue = now();
        long sum = 0;
        for (int i = 0; i < n; i++) {
            tongue -= 1 << leastOf(tongue);
            sum += talked(tongue, -1);
        }
        return sum - order(n, -1);
    }

    long row(int n, int what) {
        if (n < 1 || n > 10 || what < 0 || what > 1 || tape.size() < n) {
            return -1;
        }
        List<Integer> row = new ArrayList<>(tape.subList(0, n));
        tape.clear();
        int tongue = now();
        long sum = 0;
        int place = -1;
        for (int i = 0; i < n; i++) {
            int w = row.get(i);
            if (!inUse(w) || row.indexOf(w) < i) {
                return -2;
            }
            tongue -= 1 << w;
            sum += talked(tongue, -1);
            if (place == -1 && musts(tongue) != 0) {
                place = i;
            }
        }
        return what == 0 ? sum : place;
    }

    int till() {
        int tongue = now();
        int n = 0;
        while (tongue != 0) {
            tongue -= 1 << leastOf(tongue);
            if (musts(tongue) != 0) {
                return n;
            }
            n++;
        }
        return n;
    }

    long kept(int n, int what) {
        if (n < 0 || n > words.size() || what < 0 || what > 1) {
            return -1;
        }
        int best = -1;
        for (int tongue = 0; tongue < 1 << words.size(); tongue++) {
            if (wordsOf(tongue).size() == n && (best == -1 || talked(tongue, -1) < talked(best, -1))) {
                best = tongue;
            }
        }
        return what == 0 ? best : talked(best, -1);
    }

    long back(int what) {
        List<Integer> used = used();
        if (what < 0 || what > 3 || used.size() == words.size() || used.size() < 2) {
            return -1;
        }
        long[] best = null;
        for (int taken = 0; taken < words.size(); taken++) {
            for (int a : used) {
                for (int b : used) {
                    if (!inUse(taken) && a < b) {
                        long then = talked(now() + (1 << taken) - (1 << a) - (1 << b), -1);
                        if (best == null || then < best[3]) {
                            best = new long[] {taken, a, b, then};
                        }
                    }
                }
            }
        }
        return best[what];
    }

    int told(int w) {
        return inUse(w) && words.get(w).kind() == 0
                ? briefs(now() - (1 << w))[words.get(w).meaning()] : -1;
    }

    private void collect(int tongue, int meaning, TreeSet<Integer> into) {
        int[] manner = manner(tongue, meaning);
        if (manner[0] == 0) {
            into.add(manner[1]);
            return;
        }
        int join = joint(wordsOf(tongue), manner[0]);
        for (int w = 9; w >= 0; w--) {
            if ((tongue >> w & 1) == 1 && words.get(w).kind() == manner[0] && words.get(w).length() == join
                    && isLowestOfItsLength(tongue, w)) {
                into.add(w);
            }
        }
        collect(tongue, manner[1], into);
        if (manner[2] != -1) {
            collect(tongue, manner[2], into);
        }
    }

    private boolean isLowestOfItsLength(int tongue, int w) {
        for (int v = 0; v < w; v++) {
            if ((tongue >> v & 1) == 1 && words.get(v).kind() == words.get(w).kind()
                    && words.get(v).length() == words.get(w).length()) {
                return false;
            }
        }
        return true;
    }

    int leads(int w) {
        int told = told(w);
        if (told == -1 || told == -2) {
            return told == -1 ? -1 : 0;
        }
        TreeSet<Integer> by = new TreeSet<>();
        collect(now() - (1 << w), words.get(w).meaning(), by);
        int bits = 0;
        for (int v : by) {
            bits += 1 << v;
        }
        return bits;
    }

    int round() {
        int bits = 0;
        for (int w : used()) {
            int reached = Math.max(0, leads(w));
            for (int i = 0; i < 20; i++) {
                for (int v : used()) {
                    reached |= (reached >> v & 1) == 1 ? Math.max(0, leads(v)) : 0;
                }
            }
            bits |= reached & 1 << w;
        }
        return bits;
    }

    int fewest() {
        int best = now();
        for (int key = 0; key < 1 << words.size(); key++) {
            boolean tells = (key & ~now()) == 0;
            for (int w : used()) {
                if (tells && words.get(w).kind() == 0 && (key >> w & 1) == 0) {
                    tells = briefs(key)[words.get(w).meaning()] != -2;
                }
            }
            int fewer = wordsOf(best).size() - wordsOf(key).size();
            if (tells && (fewer > 0 || fewer == 0 && key < best)) {
                best = key;
            }
        }
        return best;
    }

    int law(int i, int n) {
        if (i < 0 || i > 3 || n < 1 || n > 60 || tape.size() < n) {
            return -1;
        }
        String text = takeText(n);
        try {
            int meaning = new LawText(text).meaning();
            laws[i] = text;
            return meaning;
        } catch (Fault fault) {
            return fault.answer;
        }
    }

    int lawIs(int i, int what) {
        if (i < 0 || i > 3 || what < 0 || what > 3 || laws[i] == null) {
            return -1;
        }
        LawText law = new LawText(laws[i]);
        int meaning;
        try {
            meaning = law.meaning();
        } catch (Fault fault) {
            throw new IllegalStateException(fault);
        }
        if (what == 0) {
            return meaning;
        }
        if (what == 1) {
            int length = law.letters.stream().mapToInt(w -> words.get(w).length()).sum();
            return length + law.nots * Math.max(0, joint(words, 1)) + law.ands * Math.max(0, joint(words, 2))
                    + law.ors * Math.max(0, joint(words, 3));
        }
        int struck = 0;
        for (int w : law.letters) {
            struck |= inUse(w) ? 0 : 1 << w;
        }
        return what == 2 ? struck : briefs(now())[meaning];
    }

    long madeUp(int length, int what) {
        if (length < 1 || length > 9 || what < 0 || what > 1) {
            return -1;
        }
        int best = -1;
        long least = 0;
        for (int meaning = 0; meaning < 64; meaning++) {
            List<Word> some = wordsOf(now());
            some.add(new Word(0, meaning, length));
            int[] brief = briefs(some);
            long sum = 0;
            for (Want want : wants) {
                int[] said = sayable(brief, want.meaning);
                sum += (long) want.often * (said == null ? silence : Math.min(silence, said[0]));
            }
            if (best == -1 || sum < least) {
                best = meaning;
                least = sum;
            }
        }
        return what == 0 ? best : talked(now(), -1) - least;
    }

    int check(int tongue, int n) {
        if (!isTongue(tongue) || n < 0 || n > 64 || tape.size() < 4 * n) {
            return -2;
        }
        int place = -1;
        for (int i = n - 1; i >= 0; i--) {
            int number = 0;
            for (int j = 0; j < 4; j++) {
                number = number * 256 + tape.get(4 * i + j);
            }
            if (number != briefs(tongue)[i]) {
                place = i;
            }
        }
        tape.clear();
        return place;
    }

    int count(int what) {
        int told = 0;
        for (int i = 0; i < 4; i++) {
            told += laws[i] == null ? 0 : 1 << i;
        }
        int[] first = {words.size(), now(), year, wants.size(), clauses.size(), tape.size(), silence, told};
        if (what >= 0 && what < 8) {
            return first[what];
        }
        if (what >= 10 && what < 10 + words.size()) {
            return years.get(what - 10);
        }
        return what >= 20 && what < 24 ? people[what - 20] : -1;
    }

    /** A law of what is near. */
    private static final class NearText {
        private final String text;
        private int at = 0;

        NearText(String text) {
            this.text = text;
        }

        private char next() {
            return at < text.length() ? text.charAt(at) : (char) 999;
        }

        private char take(String any) throws Fault {
            char sign = next();
            if (any.indexOf(sign) < 0) {
                throw new Fault(1, at);
            }
            at++;
            return sign;
        }

        private void takeOpening(String sign, int open) throws Fault {
            if (any(sign) && open == 6) {
                throw new Fault(5, at);
            }
            take(sign);
        }

        private boolean any(String signs) {
            return signs.indexOf(next()) >= 0;
        }

        List<Clause> clauses() throws Fault {
            List<Clause> list = new ArrayList<>();
            list.add(clause());
            while (at < text.length()) {
                take(";");
                if (any("k") && list.size() == 12) {
                    throw new Fault(4, at);
                }
                list.add(clause());
            }
            return list;
        }

        private Clause clause() throws Fault {
            take("k");
            Number cost = sum(0);
            take("(");
            Condition when = condition(1);
            take(")");
            return new Clause(cost, when);
        }

        private Condition condition(int open) throws Fault {
            Condition left = part(open);
            while (any("|")) {
                take("|");
                Condition first = left;
                Condition second = part(open);
                left = letters -> first.of(letters) || second.of(letters);
            }
            return left;
        }

        private Condition part(int open) throws Fault {
            Condition left = piece(open);
            while (any("&")) {
                take("&");
                Condition first = left;
                Condition second = piece(open);
                left = letters -> first.of(letters) && second.of(letters);
            }
            return left;
        }

        private Condition piece(int open) throws Fault {
            if (any("!")) {
                takeOpening("!", open);
                Condition inner = piece(open + 1);
                return letters -> !inner.of(letters);
            }
            if (any("(")) {
                takeOpening("(", open);
                Condition inner = condition(open + 1);
                take(")");
                return inner;
            }
            Number left = sum(open);
            char sign = take("<>=");
            Number right = sum(open);
            return letters -> {
                int a = left.of(letters);
                int b = right.of(letters);
                return sign == '<' ? a < b : sign == '>' ? a > b : a == b;
            };
        }

        private Number sum(int open) throws Fault {
            Number left = product(open);
            while (any("+-")) {
                char sign = take("+-");
                Number first = left;
                Number second = product(open);
                left = letters -> sign == '+' ? first.of(letters) + second.of(letters)
                        : first.of(letters) - second.of(letters);
            }
            return left;
        }

        private Number product(int open) throws Fault {
            Number left = factor(open);
            while (any("*/%")) {
                char sign = take("*/%");
                Number first = left;
                Number second = factor(open);
                left = letters -> {
                    int a = first.of(letters);
                    int b = second.of(letters);
                    if (sign != '*' && b == 0) {
                        throw new Refused();
                    }
                    return sign == '*' ? a * b : sign == '/' ? a / b : a % b;
                };
            }
            return left;
        }

        private Number factor(int open) throws Fault {
            if (any("[")) {
                takeOpening("[", open);
                Number inner = sum(open + 1);
                take("]");
                return inner;
            }
            if (any("0123456789")) {
                int start = at;
                while (any("0123456789")) {
                    if (at == start + 5) {
                        throw new Fault(2, at);
                    }
                    at++;
                }
                int value = Integer.parseInt(text.substring(start, at));
                return letters -> value;
            }
            char letter = take("wsbxyacl");
            return letters -> letters.get(letter);
        }
    }

    /** A law that is said in words. */
    private final class LawText {
        private final String text;
        private int at = 0;
        final List<Integer> letters = new ArrayList<>();
        int nots = 0;
        int ands = 0;
        int ors = 0;

        LawText(String text) {
            this.text = text;
        }

        private char next() {
            return at < text.length() ? text.charAt(at) : (char) 999;
        }

        private boolean any(String signs) {
            return signs.indexOf(next()) >= 0;
        }

        int meaning() throws Fault {
            int meaning = a(0);
            if (at < text.length()) {
                throw new Fault(1, at);
            }
            return meaning;
        }

        private int a(int open) throws Fault {
            int meaning = b(open);
            while (any("+")) {
                at++;
                ors++;
                meaning |= b(open);
            }
            return meaning;
        }

        private int b(int open) throws Fault {
            int meaning = d(open);
            while (any("-(abcdefghij")) {
                ands++;
                meaning &= d(open);
            }
            return meaning;
        }

        private int d(int open) throws Fault {
            if (any("-(") && open == 6) {
                throw new Fault(5, at);
            }
            if (any("-")) {
                at++;
                nots++;
                return 63 - d(open + 1);
            }
            if (any("(")) {
                at++;
                int meaning = a(open + 1);
                if (!any(")")) {
                    throw new Fault(1, at);
                }
                at++;
                return meaning;
            }
            if (!any("abcdefghij")) {
                throw new Fault(1, at);
            }
            int w = next() - 'a';
            if (w >= words.size() || words.get(w).kind() != 0) {
                throw new Fault(2, at);
            }
            at++;
            letters.add(w);
            return words.get(w).meaning();
        }
    }
}
