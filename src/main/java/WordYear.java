/** A tongue of words from which each year one is struck: see README.md and the numbered promises. */
public final class WordYear {
    public static final int NONE = -1;

    private static final int NEVER = -2;
    private static final long NOT_IN_USE = -1000000000L;
    private static final int MEANINGS = 64;
    private static final int EVERYTHING = 63;
    private static final int SORTS = 4;
    private static final int MOST_WORDS = 10;
    private static final int MOST_TONGUES = 1024;
    private static final int MOST_WANTS = 24;
    private static final int MOST_LAWS = 4;
    private static final int MOST_BYTES = 300;
    private static final int MOST_NEAR_BYTES = 160;
    private static final int MOST_LAW_BYTES = 60;
    private static final int MOST_CLAUSES = 12;
    private static final int MOST_OPEN = 6;
    private static final int MOST_STRIKES = 6;
    /** Above every length that can come about (some 2000), and twice it is still an int. */
    private static final int FAR = 1 << 28;

    private static final int PLAIN = 0;
    private static final int NOT = 1;
    private static final int AND = 2;
    private static final int OR = 3;

    private static final int CANNOT_STAND = 1;
    private static final int SIXTH_DIGIT = 2;
    private static final int NO_SUCH_WORD = 2;
    private static final int CLAUSE_TOO_MANY = 4;
    private static final int TOO_DEEP = 5;

    private final Lexicon words;
    private final Demand demand;
    private final Tape tape;
    private final Tongues tongues;
    private final NearReader nearReader;
    private final Rule[] rules;
    private final Rule draft;
    private final Ballot ballot;
    private final Years years;
    private final Dictionary dictionary;

    public WordYear() {
        words = new Lexicon();
        demand = new Demand();
        tape = new Tape();
        tongues = new Tongues(words, demand);
        nearReader = new NearReader(tape);
        rules = new Rule[MOST_LAWS];
        for (int i = 0; i < MOST_LAWS; i++) {
            rules[i] = new Rule(tape, words);
        }
        draft = new Rule(tape, words);
        ballot = new Ballot(words, demand, tongues);
        years = new Years(words, tongues);
        dictionary = new Dictionary(words, tongues);
    }

    public int word(int kind, int meaning, int length) {
        if (!within(kind, PLAIN, OR) || !within(meaning, 0, EVERYTHING) || !within(length, 1, 9)) {
            return NONE;
        }
        return words.add(kind, meaning, length);
    }

    public boolean people(int sort, int n) {
        if (!within(sort, 0, SORTS - 1) || !within(n, 0, 1000)) {
            return false;
        }
        demand.heads[sort] = n;
        return true;
    }

    public int want(int sort, int meaning, int often, int must) {
        if (!within(sort, 0, SORTS - 1) || !within(meaning, 0, EVERYTHING)
                || !within(often, 0, 1000) || !within(must, 0, 2000)) {
            return NONE;
        }
        return demand.add(sort, meaning, often, must);
    }

    public boolean often(int i, int n) {
        if (!within(i, 0, demand.size - 1) || !within(i, 0, MOST_WANTS - 1) || !within(n, 0, 1000)) {
            return false;
        }
        demand.times[i] = n;
        return true;
    }

    public boolean silence(int n) {
        if (!within(n, 0, 5000)) {
            return false;
        }
        demand.hush = n;
        return true;
    }

    public int feed(int a, int b, int c, int d, int e) {
        if (tape.size > MOST_BYTES - 20) {
            return NONE;
        }
        tape.push(a);
        tape.push(b);
        tape.push(c);
        tape.push(d);
        tape.push(e);
        return tape.size;
    }

    public int near(int n) {
        if (!within(n, 1, MOST_NEAR_BYTES) || n > tape.size) {
            return NONE;
        }
        int answer = nearReader.read(n);
        tape.wipe();
        if (answer > 0) {
            tongues.takeLaw(nearReader.draft);
        }
        return answer;
    }

    public int brief(int tongue, int meaning) {
        if (!words.isTongue(tongue) || !within(meaning, 0, EVERYTHING)) {
            return NONE;
        }
        return tongues.speech(tongue).shortest(meaning);
    }

    public int how(int tongue, int meaning, int what) {
        if (!words.isTongue(tongue) || !within(meaning, 0, EVERYTHING) || !within(what, 0, 2)) {
            return NONE;
        }
        Speech speech = tongues.speech(tongue);
        if (speech.shortest(meaning) == NEVER) {
            return NEVER;
        }
        int manner = speech.manner(meaning);
        int kind = mannerKind(manner);
        if (what == 0) {
            return kind;
        }
        if (what == 1) {
            return mannerFirst(manner);
        }
        return kind == AND || kind == OR ? mannerSecond(manner) : NONE;
    }

    public int sayable(int tongue, int meaning, int what) {
        if (!words.isTongue(tongue) || !within(meaning, 0, EVERYTHING) || !within(what, 0, 1)) {
            return NONE;
        }
        int price = tongues.price(tongues.speech(tongue), meaning);
        if (price == NEVER) {
            return NEVER;
        }
        return what == 0 ? price >> 6 : price & EVERYTHING;
    }

    public long talk(int tongue, int sort) {
        if (!words.isTongue(tongue) || !within(sort, NONE, SORTS - 1)) {
            return -1;
        }
        return tongues.yearly(tongues.speech(tongue), sort);
    }

    public int musts(int tongue) {
        return words.isTongue(tongue) ? tongues.missed(tongue) : NONE;
    }

    public int strike(int w) {
        return words.strikeOut(w);
    }

    public long costs(int w) {
        if (!contains(words.used, w)) {
            return NOT_IN_USE;
        }
        return tongues.yearly(tongues.speech(without(words.used, w)), NONE)
                - tongues.yearly(tongues.speech(words.used), NONE);
    }

    public int least() {
        return years.cheapest(words.used);
    }

    public int spite(int sort) {
        return within(sort, 0, SORTS - 1) ? ballot.spiteful(sort) : NONE;
    }

    public int vote(int way) {
        if (!within(way, 0, 3) || words.used == 0 || demand.voters() == 0) {
            return NONE;
        }
        return ballot.elect(way);
    }

    public long order(int n, int what) {
        if (!years.canStrike(n) || !within(what, NONE, n - 1)) {
            return -1;
        }
        long together = years.plan(n);
        return what == NONE ? together : years.planned(what);
    }

    public long gap(int n) {
        if (!years.canStrike(n)) {
            return -1;
        }
        return years.greedy(n) - years.plan(n);
    }

    public long row(int n, int what) {
        if (!within(n, 1, MOST_WORDS) || !within(what, 0, 1) || n > tape.size) {
            return NONE;
        }
        long answer = years.follow(tape, n, what);
        tape.wipe();
        return answer;
    }

    public int till() {
        return years.bearable();
    }

    public long kept(int n, int what) {
        if (!within(n, 0, words.size) || !within(what, 0, 1)) {
            return -1;
        }
        int tongue = years.bestOf(n);
        return what == 0 ? tongue : tongues.yearly(tongues.speech(tongue), NONE);
    }

    public long back(int what) {
        if (!within(what, 0, 3) || words.used == words.all() || Integer.bitCount(words.used) < 2) {
            return -1;
        }
        return years.exchange(what);
    }

    public int told(int w) {
        if (!words.isPlainInUse(w)) {
            return NONE;
        }
        return tongues.speech(without(words.used, w)).shortest(words.meaningOf(w));
    }

    public int leads(int w) {
        return words.isPlainInUse(w) ? dictionary.entry(w) : NONE;
    }

    public int round() {
        return dictionary.circles();
    }

    public int fewest() {
        return dictionary.smallestKey();
    }

    public int law(int i, int n) {
        if (!within(i, 0, MOST_LAWS - 1) || !within(n, 1, MOST_LAW_BYTES) || n > tape.size) {
            return NONE;
        }
        int answer = draft.read(n);
        tape.wipe();
        if (answer >= 0 && rules[i] != null) {
            rules[i].takeOver(draft);
        }
        return answer;
    }

    public int lawIs(int i, int what) {
        if (!within(i, 0, MOST_LAWS - 1) || !within(what, 0, 3)) {
            return NONE;
        }
        Rule rule = rules[i];
        if (rule == null || !rule.isTold) {
            return NONE;
        }
        switch (what) {
            case 0:
                return rule.meaning;
            case 1:
                return rule.fullLength();
            case 2:
                return rule.letters & ~words.used;
            default:
                return tongues.speech(words.used).shortest(rule.meaning);
        }
    }

    public long madeUp(int length, int what) {
        if (!within(length, 1, 9) || !within(what, 0, 1)) {
            return -1;
        }
        return tongues.childsWord(length, what);
    }

    public int check(int tongue, int n) {
        if (!words.isTongue(tongue) || !within(n, 0, MEANINGS) || 4 * n > tape.size) {
            return NEVER;
        }
        Speech speech = tongues.speech(tongue);
        int place = NONE;
        for (int i = 0; i < n && place == NONE; i++) {
            if (tape.numberAt(i) != speech.shortest(i)) {
                place = i;
            }
        }
        tape.wipe();
        return place;
    }

    public int count(int what) {
        switch (what) {
            case 0:
                return words.size;
            case 1:
                return words.used;
            case 2:
                return words.year;
            case 3:
                return demand.size;
            case 4:
                return tongues.nearLaw.clauses;
            case 5:
                return tape.size;
            case 6:
                return demand.hush;
            case 7:
                return toldLaws();
            default:
                return within(what, 10, 19) ? words.yearOf(what - 10)
                        : within(what, 20, 23) ? demand.heads[what - 20] : NONE;
        }
    }

    private int toldLaws() {
        int bits = 0;
        for (int i = 0; i < MOST_LAWS; i++) {
            Rule rule = rules[i];
            if (rule != null && rule.isTold) {
                bits |= 1 << i;
            }
        }
        return bits;
    }

    private static boolean within(int n, int low, int high) {
        return n >= low && n <= high;
    }

    private static boolean contains(int tongue, int w) {
        return w >= 0 && w < MOST_WORDS && (tongue >> w & 1) == 1;
    }

    private static int without(int tongue, int w) {
        return tongue & ~(1 << w);
    }

    /** A way to say a meaning in one int: the kind, then the word or the meanings it is made of. */
    private static int packManner(int kind, int first, int second) {
        return kind << 12 | first << 6 | second;
    }

    private static int mannerKind(int manner) {
        return manner >> 12;
    }

    private static int mannerFirst(int manner) {
        return manner >> 6 & EVERYTHING;
    }

    private static int mannerSecond(int manner) {
        return manner & EVERYTHING;
    }

    /** All words that were ever made: what they are, and which are in use. */
    private static final class Lexicon {
        private final int[] kinds = new int[MOST_WORDS];
        private final int[] meanings = new int[MOST_WORDS];
        private final int[] lengths = new int[MOST_WORDS];
        private final int[] struckIn = new int[MOST_WORDS];
        int size;
        int used;
        int year;

        int add(int kind, int meaning, int length) {
            if (size < 0 || size >= MOST_WORDS) {
                return NONE;
            }
            kinds[size] = kind;
            meanings[size] = meaning;
            lengths[size] = length;
            struckIn[size] = NONE;
            used |= 1 << size;
            size++;
            return size - 1;
        }

        int strikeOut(int w) {
            if (!contains(used, w)) {
                return NONE;
            }
            struckIn[w] = year;
            used = without(used, w);
            year++;
            return year - 1;
        }

        int all() {
            return (1 << size) - 1;
        }

        boolean isTongue(int tongue) {
            return within(tongue, 0, all());
        }

        boolean isPlain(int w) {
            return contains(all(), w) && kinds[w] == PLAIN;
        }

        boolean isPlainInUse(int w) {
            return contains(used, w) && kinds[w] == PLAIN;
        }

        int meaningOf(int w) {
            return contains(all(), w) ? meanings[w] & EVERYTHING : 0;
        }

        int lengthOf(int w) {
            return contains(all(), w) ? lengths[w] : 0;
        }

        int yearOf(int w) {
            return contains(all(), w) ? struckIn[w] : NONE;
        }

        /** The lowest of the shortest words of a kind in a tongue, or NONE. */
        int shortestOf(int kind, int tongue) {
            int best = NONE;
            int length = FAR;
            for (int w = 0; w < MOST_WORDS; w++) {
                if (contains(tongue, w) && kinds[w] == kind && lengths[w] < length) {
                    best = w;
                    length = lengths[w];
                }
            }
            return best;
        }

        /** How long the shortest joining word of a kind is; 0 if the tongue has none. */
        int joinLength(int kind, int tongue) {
            return lengthOf(shortestOf(kind, tongue));
        }
    }

    /** What people want to say, how many they are, and what it costs to be silent. */
    private static final class Demand {
        final int[] heads = new int[SORTS];
        final int[] sorts = new int[MOST_WANTS];
        final int[] meanings = new int[MOST_WANTS];
        final int[] times = new int[MOST_WANTS];
        final int[] limits = new int[MOST_WANTS];
        int size;
        int hush = 1000;

        int add(int sort, int meaning, int often, int must) {
            if (size < 0 || size >= MOST_WANTS) {
                return NONE;
            }
            sorts[size] = sort;
            meanings[size] = meaning;
            times[size] = often;
            limits[size] = must;
            size++;
            return size - 1;
        }

        int voters() {
            int sum = 0;
            for (int s = 0; s < SORTS; s++) {
                sum += heads[s];
            }
            return sum;
        }
    }

    /** The bytes that were fed and not yet used; a text among them is read from the left on. */
    private static final class Tape {
        private final int[] bytes = new int[MOST_BYTES];
        int size;
        private int textSize;
        private int at;
        /** The first fault of the text as it is answered; 0 while there is none. */
        int fault;

        void push(int number) {
            for (int shift = 24; shift >= 0; shift -= 8) {
                if (size >= 0 && size < MOST_BYTES) {
                    bytes[size] = number >> shift & 255;
                    size++;
                }
            }
        }

        void wipe() {
            size = 0;
        }

        int byteAt(int place) {
            return place >= 0 && place < size && place < MOST_BYTES ? bytes[place] : NONE;
        }

        int numberAt(int place) {
            int number = 0;
            for (int i = 0; i < 4; i++) {
                number = number << 8 | byteAt(4 * place + i) & 255;
            }
            return number;
        }

        void startText(int n) {
            textSize = n;
            at = 0;
            fault = 0;
        }

        /** The sign that comes next; NONE behind the last one and behind a fault. */
        int sign() {
            boolean isThere = fault == 0 && at >= 0 && at < textSize && at < size && at < MOST_BYTES;
            return isThere ? bytes[at] : NONE;
        }

        boolean isAtEnd() {
            return fault == 0 && at >= textSize;
        }

        void step() {
            at++;
        }

        void pass(int due) {
            if (sign() == due) {
                at++;
            } else {
                fail(CANNOT_STAND);
            }
        }

        /** Steps over a sign that opens something, if not too many are open. */
        boolean opens(int open) {
            if (open >= MOST_OPEN) {
                fail(TOO_DEEP);
                return false;
            }
            at++;
            return true;
        }

        void fail(int number) {
            if (fault == 0) {
                fault = -1000 * number - at;
            }
        }
    }

    /** How shortly one tongue says each meaning, and for how much with the law of what is near. */
    private static final class Speech {
        private final Lexicon words;
        final int[] lengths = new int[MEANINGS];
        int tongue;
        private int not;
        private int and;
        private int or;
        /** Made when a law first asks for it; only those in priced are by the law with that stamp. */
        int[] prices = null;
        long priced;
        int stamp;
        /** The least talk of this tongue and of those to come, for the plan that is being made. */
        long together;

        Speech(Lexicon words) {
            this.words = words;
        }

        /** With one word more, of no number, that a child has made up (FAR as its length: none). */
        void solve(int ofTongue, int childsMeaning, int childsLength) {
            tongue = ofTongue;
            priced = 0;
            for (int m = 0; m < MEANINGS; m++) {
                lengths[m] = FAR;
            }
            for (int w = 0; w < MOST_WORDS; w++) {
                if (contains(tongue, w) && words.isPlain(w)) {
                    offer(words.meaningOf(w), words.lengthOf(w));
                }
            }
            offer(childsMeaning, childsLength);
            not = words.joinLength(NOT, tongue);
            and = words.joinLength(AND, tongue);
            or = words.joinLength(OR, tongue);
            settle();
        }

        private void offer(int meaning, int length) {
            if (length < lengths[meaning & EVERYTHING]) {
                lengths[meaning & EVERYTHING] = length;
            }
        }

        /** The shortest open one can't become shorter: it is settled, and joined with all settled. */
        private void settle() {
            long settled = 0;
            for (int n = 0; n < MEANINGS; n++) {
                int next = NONE;
                int length = FAR;
                for (int m = 0; m < MEANINGS; m++) {
                    if (lengths[m] < length && (settled >> m & 1) == 0) {
                        next = m;
                        length = lengths[m];
                    }
                }
                if (next == NONE) {
                    return;
                }
                if (not > 0) {
                    offer(EVERYTHING ^ next, length + not);
                }
                for (int m = 0; m < MEANINGS && and + or > 0; m++) {
                    if ((settled >> m & 1) == 1) {
                        int both = length + lengths[m];
                        offer(next & m, and > 0 ? both + and : FAR);
                        offer(next | m, or > 0 ? both + or : FAR);
                    }
                }
                settled |= 1L << next;
            }
        }

        int shortest(int meaning) {
            int length = lengths[meaning & EVERYTHING];
            return length < FAR ? length : NEVER;
        }

        /** How a meaning that can be said is said. */
        int manner(int meaning) {
            int length = lengths[meaning & EVERYTHING];
            for (int w = 0; w < MOST_WORDS; w++) {
                if (contains(tongue, w) && words.isPlain(w) && words.meaningOf(w) == meaning
                        && words.lengthOf(w) == length) {
                    return packManner(PLAIN, w, 0);
                }
            }
            int other = EVERYTHING ^ meaning & EVERYTHING;
            if (not > 0 && lengths[other] + not == length) {
                return packManner(NOT, other, 0);
            }
            int pair = and > 0 ? pairOf(AND, meaning, length - and) : NONE;
            return pair != NONE ? pair : pairOf(OR, meaning, length - or);
        }

        private int pairOf(int kind, int meaning, int both) {
            for (int first = 0; first < MEANINGS; first++) {
                boolean fits = kind == AND ? (first & meaning) == meaning : (first | meaning) == meaning;
                if (fits && lengths[first] < both) {
                    for (int second = first; second < MEANINGS; second++) {
                        int joined = kind == AND ? first & second : first | second;
                        if (joined == meaning && lengths[first] + lengths[second] == both) {
                            return packManner(kind, first, second);
                        }
                    }
                }
            }
            return NONE;
        }
    }

    /** The speech of each tongue that was asked for, and what the wants cost in it. */
    private static final class Tongues {
        private final Lexicon words;
        private final Demand demand;
        /** Words never change, so a speech once found holds for good; most tongues are never asked. */
        private final Speech[] speeches = new Speech[MOST_TONGUES];
        private final Speech childs;
        final NearLaw nearLaw = new NearLaw();
        private int stamp;

        Tongues(Lexicon words, Demand demand) {
            this.words = words;
            this.demand = demand;
            this.childs = new Speech(words);
        }

        void takeLaw(NearLaw law) {
            nearLaw.takeOver(law);
            stamp++;
        }

        Speech speech(int tongue) {
            int place = tongue & (MOST_TONGUES - 1);
            Speech known = speeches[place];
            if (known != null) {
                return known;
            }
            Speech made = new Speech(words);
            made.solve(place, 0, FAR);
            speeches[place] = made;
            return made;
        }

        /** For how much a meaning is sayable, times 64, and what is said for it; or NEVER. */
        int price(Speech speech, int meaning) {
            int wanted = meaning & EVERYTHING;
            int best = speech.lengths[wanted];
            int by = wanted;
            if (speech.stamp != stamp) {
                speech.stamp = stamp;
                speech.priced = 0;
            }
            int[] prices = speech.prices;
            if (prices == null && nearLaw.clauses > 0) {
                prices = new int[MEANINGS];
                speech.prices = prices;
            }
            if (prices == null) {
                return best < FAR ? best << 6 | by : NEVER;
            }
            if ((speech.priced >> wanted & 1) == 1) {
                return prices[wanted];
            }
            for (int said = 0; said < MEANINGS; said++) {
                int length = speech.lengths[said];
                // What is no shorter alone can't become cheaper, as no law costs less than 0.
                if (said != wanted && length < best) {
                    int extra = nearLaw.extraFor(wanted, said, length);
                    if (extra != NONE && length + extra < best) {
                        best = length + extra;
                        by = said;
                    }
                }
            }
            speech.priced |= 1L << wanted;
            prices[wanted] = best < FAR ? best << 6 | by : NEVER;
            return prices[wanted];
        }

        /** The talk of a year by a sort, or by all (NONE). */
        long yearly(Speech speech, int sort) {
            long sum = 0;
            for (int i = 0; i < demand.size && i < MOST_WANTS; i++) {
                if ((sort == NONE || demand.sorts[i] == sort) && demand.times[i] > 0) {
                    int price = price(speech, demand.meanings[i]);
                    int each = price == NEVER ? demand.hush : Math.min(price >> 6, demand.hush);
                    sum += (long) demand.times[i] * each;
                }
            }
            return sum;
        }

        /** The wants, as bits, that must be sayable for less than they are. */
        int missed(int tongue) {
            Speech speech = speech(tongue);
            int bits = 0;
            for (int i = 0; i < demand.size && i < MOST_WANTS; i++) {
                if (demand.limits[i] > 0) {
                    int price = price(speech, demand.meanings[i]);
                    if (price == NEVER || price >> 6 > demand.limits[i]) {
                        bits |= 1 << i;
                    }
                }
            }
            return bits;
        }

        /** The best meaning for a word that a child makes up, or how much less talk it leaves. */
        long childsWord(int length, int what) {
            Speech now = speech(words.used);
            long talkNow = yearly(now, NONE);
            long least = 0;
            int meaning = NONE;
            for (int m = 0; m < MEANINGS; m++) {
                long talkThen = talkNow;
                // A word that is no shorter than what says the same already changes nothing.
                if (length < now.lengths[m]) {
                    childs.solve(words.used, m, length);
                    talkThen = yearly(childs, NONE);
                }
                if (meaning == NONE || talkThen < least) {
                    least = talkThen;
                    meaning = m;
                }
            }
            return what == 0 ? meaning : talkNow - least;
        }
    }

    /** A law of what is near, as steps for a machine with a stack. */
    private static final class NearLaw {
        static final int NUMBER = 0;
        static final int LETTER = 1;
        static final int PLUS = 2;
        static final int MINUS = 3;
        static final int TIMES = 4;
        static final int OVER = 5;
        static final int REST = 6;
        static final int LESS = 7;
        static final int MORE = 8;
        static final int SAME = 9;
        static final int OPPOSITE = 10;
        /** If the top holds, the rest behind an | does not matter; likewise below for an &. */
        static final int ENOUGH = 11;
        static final int LOST = 12;
        /** A step needs at least one byte of the text. */
        static final int MOST_STEPS = MOST_NEAR_BYTES;
        /** Two values wait at most in each of the seven levels of brackets, and one for the compared. */
        static final int MOST_WAITING = 24;

        private final int[] steps = new int[MOST_STEPS];
        private final int[] given = new int[MOST_STEPS];
        private final int[] priceAt = new int[MOST_CLAUSES];
        private final int[] conditionAt = new int[MOST_CLAUSES];
        private final int[] endAt = new int[MOST_CLAUSES];
        private final int[] letters = new int[8];
        private final int[] stack = new int[MOST_WAITING];
        private int size;
        private boolean refused;
        int clauses;

        void clear() {
            size = 0;
            clauses = 0;
        }

        void takeOver(NearLaw law) {
            System.arraycopy(law.steps, 0, steps, 0, MOST_STEPS);
            System.arraycopy(law.given, 0, given, 0, MOST_STEPS);
            System.arraycopy(law.priceAt, 0, priceAt, 0, MOST_CLAUSES);
            System.arraycopy(law.conditionAt, 0, conditionAt, 0, MOST_CLAUSES);
            System.arraycopy(law.endAt, 0, endAt, 0, MOST_CLAUSES);
            size = law.size;
            clauses = law.clauses;
        }

        int put(int step, int value) {
            if (size < 0 || size >= MOST_STEPS) {
                return NONE;
            }
            steps[size] = step;
            given[size] = value;
            size++;
            return size - 1;
        }

        /** Lets a jump that was put before lead to what is put next. */
        void land(int jump) {
            if (jump >= 0 && jump < MOST_STEPS) {
                given[jump] = size;
            }
        }

        void startPrice() {
            if (clauses >= 0 && clauses < MOST_CLAUSES) {
                priceAt[clauses] = size;
            }
        }

        void startCondition() {
            if (clauses >= 0 && clauses < MOST_CLAUSES) {
                conditionAt[clauses] = size;
            }
        }

        void endClause() {
            if (clauses >= 0 && clauses < MOST_CLAUSES) {
                endAt[clauses] = size;
                clauses++;
            }
        }

        /** What it costs to say one meaning for another, or NONE if it is not near. */
        int extraFor(int wanted, int said, int length) {
            letters[0] = Integer.bitCount(wanted);
            letters[1] = Integer.bitCount(said);
            letters[2] = Integer.bitCount(wanted & said);
            letters[3] = Integer.bitCount(said & ~wanted);
            letters[4] = Integer.bitCount(wanted & ~said);
            letters[5] = wanted;
            letters[6] = said;
            letters[7] = length;
            for (int i = 0; i < clauses && i < MOST_CLAUSES; i++) {
                if (run(conditionAt[i], endAt[i]) != 0) {
                    int cost = run(priceAt[i], conditionAt[i]);
                    return cost >= 0 && cost <= 1000 ? cost : NONE;
                }
            }
            return NONE;
        }

        /** What the steps leave; 0 if something is refused, for a condition as for a cost. */
        private int run(int from, int to) {
            int top = 0;
            refused = false;
            int at = from;
            for (int turn = 0; turn < MOST_STEPS && at >= 0 && at < to && at < MOST_STEPS; turn++) {
                int step = steps[at];
                int next = at + 1;
                if (step == NUMBER || step == LETTER) {
                    if (top < MOST_WAITING) {
                        stack[top] = step == NUMBER ? given[at] : letters[given[at] & 7];
                        top++;
                    }
                } else if (top > 0 && top <= MOST_WAITING) {
                    int upper = stack[top - 1];
                    if (step == OPPOSITE) {
                        stack[top - 1] = 1 - upper;
                    } else if (step == ENOUGH || step == LOST) {
                        // A jump leaves its reason on the stack as what the whole comes to.
                        if ((upper != 0) == (step == ENOUGH)) {
                            next = given[at];
                        } else {
                            top--;
                        }
                    } else if (top > 1) {
                        top--;
                        stack[top - 1] = joined(step, stack[top - 1], upper);
                    }
                }
                if (refused) {
                    return 0;
                }
                at = next;
            }
            return top > 0 ? stack[0] : 0;
        }

        private int joined(int step, int left, int right) {
            switch (step) {
                case PLUS:
                    return left + right;
                case MINUS:
                    return left - right;
                case TIMES:
                    return left * right;
                case LESS:
                    return left < right ? 1 : 0;
                case MORE:
                    return left > right ? 1 : 0;
                case SAME:
                    return left == right ? 1 : 0;
                default:
                    break;
            }
            if (right == 0) {
                refused = true;
                return 0;
            }
            return step == OVER ? left / right : left % right;
        }
    }

    /** Reads a law of what is near from the tape; open tells how many of ( [ ! are open. */
    private static final class NearReader {
        private final Tape tape;
        final NearLaw draft = new NearLaw();

        NearReader(Tape tape) {
            this.tape = tape;
        }

        /** How many clauses there are, or the first fault. */
        int read(int n) {
            tape.startText(n);
            draft.clear();
            for (int i = 0; i <= MOST_CLAUSES && tape.fault == 0; i++) {
                if (i == MOST_CLAUSES && tape.sign() == 'k') {
                    tape.fail(CLAUSE_TOO_MANY);
                }
                tape.pass('k');
                draft.startPrice();
                sum(0, 0);
                tape.pass('(');
                draft.startCondition();
                condition(0, 1);
                tape.pass(')');
                draft.endClause();
                if (tape.isAtEnd()) {
                    return draft.clauses;
                }
                tape.pass(';');
            }
            return tape.fault;
        }

        /** At level 0 parts with | between them, at level 1 pieces with &. */
        private void condition(int level, int open) {
            int joint = level == 0 ? '|' : '&';
            int jump = NONE;
            boolean goesOn = true;
            for (int i = 0; i < MOST_NEAR_BYTES && goesOn; i++) {
                if (level == 0) {
                    condition(1, open);
                } else {
                    piece(open);
                }
                draft.land(jump);
                goesOn = tape.sign() == joint;
                if (goesOn) {
                    tape.step();
                    jump = draft.put(level == 0 ? NearLaw.ENOUGH : NearLaw.LOST, 0);
                }
            }
        }

        private void piece(int open) {
            int sign = tape.sign();
            if (sign == '!') {
                if (tape.opens(open)) {
                    piece(open + 1);
                    draft.put(NearLaw.OPPOSITE, 0);
                }
            } else if (sign == '(') {
                if (tape.opens(open)) {
                    condition(0, open + 1);
                    tape.pass(')');
                }
            } else {
                sum(0, open);
                int between = tape.sign();
                int step = between == '<' ? NearLaw.LESS : between == '>' ? NearLaw.MORE : NearLaw.SAME;
                tape.pass(step == NearLaw.SAME ? '=' : between);
                sum(0, open);
                draft.put(step, 0);
            }
        }

        /** At level 0 terms with + or - between them, at level 1 factors with * / or %. */
        private void sum(int level, int open) {
            int step = NONE;
            boolean goesOn = true;
            for (int i = 0; i < MOST_NEAR_BYTES && goesOn; i++) {
                if (level == 0) {
                    sum(1, open);
                } else {
                    factor(open);
                }
                if (step != NONE) {
                    draft.put(step, 0);
                }
                step = level == 0 ? sumStep(tape.sign()) : productStep(tape.sign());
                goesOn = step != NONE;
                if (goesOn) {
                    tape.step();
                }
            }
        }

        private static int sumStep(int sign) {
            return sign == '+' ? NearLaw.PLUS : sign == '-' ? NearLaw.MINUS : NONE;
        }

        private static int productStep(int sign) {
            return sign == '*' ? NearLaw.TIMES : sign == '/' ? NearLaw.OVER
                    : sign == '%' ? NearLaw.REST : NONE;
        }

        private void factor(int open) {
            int sign = tape.sign();
            int letter = letterOf(sign);
            if (sign == '[') {
                if (tape.opens(open)) {
                    sum(0, open + 1);
                    tape.pass(']');
                }
            } else if (isDigit(sign)) {
                number();
            } else if (letter != NONE) {
                tape.step();
                draft.put(NearLaw.LETTER, letter);
            } else {
                tape.fail(CANNOT_STAND);
            }
        }

        private void number() {
            int value = 0;
            for (int i = 0; i < 5 && isDigit(tape.sign()); i++) {
                value = 10 * value + tape.sign() - '0';
                tape.step();
            }
            if (isDigit(tape.sign())) {
                tape.fail(SIXTH_DIGIT);
            }
            draft.put(NearLaw.NUMBER, value);
        }

        private static boolean isDigit(int sign) {
            return sign >= '0' && sign <= '9';
        }

        /** The place of a letter's value among those that a law is asked with. */
        private static int letterOf(int sign) {
            switch (sign) {
                case 'w':
                    return 0;
                case 's':
                    return 1;
                case 'b':
                    return 2;
                case 'x':
                    return 3;
                case 'y':
                    return 4;
                case 'a':
                    return 5;
                case 'c':
                    return 6;
                case 'l':
                    return 7;
                default:
                    return NONE;
            }
        }
    }

    /** A law that is said in words, and how it is read; open tells how many of ( - are open. */
    private static final class Rule {
        private final Tape tape;
        private final Lexicon words;
        boolean isTold;
        int meaning;
        int letters;
        private int lettersLength;
        private int nots;
        private int ands;
        private int ors;

        Rule(Tape tape, Lexicon words) {
            this.tape = tape;
            this.words = words;
        }

        /** The meaning, or the first fault. */
        int read(int n) {
            letters = 0;
            lettersLength = 0;
            nots = 0;
            ands = 0;
            ors = 0;
            tape.startText(n);
            meaning = either(0);
            if (!tape.isAtEnd()) {
                tape.fail(CANNOT_STAND);
            }
            isTold = tape.fault == 0;
            return isTold ? meaning : tape.fault;
        }

        void takeOver(Rule rule) {
            isTold = rule.isTold;
            meaning = rule.meaning;
            letters = rule.letters;
            lettersLength = rule.lettersLength;
            nots = rule.nots;
            ands = rule.ands;
            ors = rule.ors;
        }

        /** Words may come later that join more shortly, so this is reckoned when it is asked. */
        int fullLength() {
            int all = words.all();
            return lettersLength + nots * words.joinLength(NOT, all)
                    + ands * words.joinLength(AND, all) + ors * words.joinLength(OR, all);
        }

        private int either(int open) {
            int joined = both(open);
            for (int i = 0; i < MOST_LAW_BYTES && tape.sign() == '+'; i++) {
                tape.step();
                ors++;
                joined |= both(open);
            }
            return joined;
        }

        private int both(int open) {
            int joined = single(open);
            for (int i = 0; i < MOST_LAW_BYTES && startsSingle(tape.sign()); i++) {
                ands++;
                joined &= single(open);
            }
            return joined;
        }

        private static boolean isLetter(int sign) {
            return sign >= 'a' && sign <= 'j';
        }

        private static boolean startsSingle(int sign) {
            return sign == '-' || sign == '(' || isLetter(sign);
        }

        private int single(int open) {
            int sign = tape.sign();
            if (isLetter(sign)) {
                return letter(sign - 'a');
            }
            if (!startsSingle(sign)) {
                tape.fail(CANNOT_STAND);
                return 0;
            }
            if (!tape.opens(open)) {
                return 0;
            }
            if (sign == '-') {
                nots++;
                return EVERYTHING ^ single(open + 1);
            }
            int joined = either(open + 1);
            tape.pass(')');
            return joined;
        }

        private int letter(int w) {
            if (!words.isPlain(w)) {
                tape.fail(NO_SUCH_WORD);
                return 0;
            }
            tape.step();
            letters |= 1 << w;
            lettersLength += words.lengthOf(w);
            return words.meaningOf(w);
        }
    }

    /** Which word goes by the will of one sort or by votes of all. */
    private static final class Ballot {
        private final Lexicon words;
        private final Demand demand;
        private final Tongues tongues;
        private final long[] growth = new long[MOST_WORDS];
        /** At ten times a sort and a word: how many words stand ahead of it in the sort's row. */
        private final int[] places = new int[SORTS * MOST_WORDS];

        Ballot(Lexicon words, Demand demand, Tongues tongues) {
            this.words = words;
            this.demand = demand;
            this.tongues = tongues;
        }

        int spiteful(int sort) {
            int best = NONE;
            long most = 0;
            Speech now = tongues.speech(words.used);
            long own = tongues.yearly(now, sort);
            long all = tongues.yearly(now, NONE);
            for (int w = 0; w < MOST_WORDS; w++) {
                if (contains(words.used, w)) {
                    Speech then = tongues.speech(without(words.used, w));
                    long ownGrowth = tongues.yearly(then, sort) - own;
                    long othersGrowth = tongues.yearly(then, NONE) - all - ownGrowth;
                    long spite = othersGrowth - 3 * ownGrowth;
                    if (best == NONE || spite > most) {
                        best = w;
                        most = spite;
                    }
                }
            }
            return best;
        }

        int elect(int way) {
            for (int s = 0; s < SORTS; s++) {
                rank(s);
            }
            switch (way) {
                case 0:
                    return firstWithMost(NONE);
                case 1:
                    return runoff();
                case 2:
                    return withMostPoints();
                default:
                    return aheadOfAll();
            }
        }

        private void rank(int sort) {
            long now = tongues.yearly(tongues.speech(words.used), sort);
            for (int w = 0; w < MOST_WORDS; w++) {
                growth[w] = contains(words.used, w)
                        ? tongues.yearly(tongues.speech(without(words.used, w)), sort) - now : 0;
            }
            for (int w = 0; w < MOST_WORDS; w++) {
                int ahead = 0;
                for (int v = 0; v < MOST_WORDS; v++) {
                    if (contains(words.used, v)
                            && (growth[v] < growth[w] || growth[v] == growth[w] && v < w)) {
                        ahead++;
                    }
                }
                int place = MOST_WORDS * sort + w;
                if (place >= 0 && place < SORTS * MOST_WORDS) {
                    places[place] = ahead;
                }
            }
        }

        private int placeOf(int sort, int w) {
            int place = MOST_WORDS * sort + w;
            return place >= 0 && place < SORTS * MOST_WORDS ? places[place] : 0;
        }

        private int firstWithMost(int excluded) {
            int best = NONE;
            int most = NONE;
            for (int w = 0; w < MOST_WORDS; w++) {
                if (contains(words.used, w) && w != excluded) {
                    int votes = 0;
                    for (int s = 0; s < SORTS; s++) {
                        votes += placeOf(s, w) == 0 ? demand.heads[s] : 0;
                    }
                    if (votes > most) {
                        best = w;
                        most = votes;
                    }
                }
            }
            return best;
        }

        private int runoff() {
            int first = firstWithMost(NONE);
            int second = firstWithMost(first);
            if (second == NONE) {
                return first;
            }
            return votersFor(second, first) > votersFor(first, second) ? second : first;
        }

        private int votersFor(int w, int other) {
            int votes = 0;
            for (int s = 0; s < SORTS; s++) {
                votes += placeOf(s, w) < placeOf(s, other) ? demand.heads[s] : 0;
            }
            return votes;
        }

        private int withMostPoints() {
            int behindFirst = Integer.bitCount(words.used) - 1;
            int best = NONE;
            int most = NONE;
            for (int w = 0; w < MOST_WORDS; w++) {
                if (contains(words.used, w)) {
                    int points = 0;
                    for (int s = 0; s < SORTS; s++) {
                        points += demand.heads[s] * (behindFirst - placeOf(s, w));
                    }
                    if (points > most) {
                        best = w;
                        most = points;
                    }
                }
            }
            return best;
        }

        private int aheadOfAll() {
            int voters = demand.voters();
            for (int w = 0; w < MOST_WORDS; w++) {
                boolean wins = contains(words.used, w);
                for (int v = 0; v < MOST_WORDS && wins; v++) {
                    if (v != w && contains(words.used, v)) {
                        wins = 2 * votersFor(w, v) > voters;
                    }
                }
                if (wins) {
                    return w;
                }
            }
            return NONE;
        }
    }

    /** What follows from striking several words, and which words had better have been kept. */
    private static final class Years {
        private final Lexicon words;
        private final Tongues tongues;

        Years(Lexicon words, Tongues tongues) {
            this.words = words;
            this.tongues = tongues;
        }

        /** The word without which a tongue's talk is least, or NONE. */
        int cheapest(int tongue) {
            int best = NONE;
            long least = 0;
            for (int w = 0; w < MOST_WORDS; w++) {
                if (contains(tongue, w)) {
                    long yearly = tongues.yearly(tongues.speech(without(tongue, w)), NONE);
                    if (best == NONE || yearly < least) {
                        best = w;
                        least = yearly;
                    }
                }
            }
            return best;
        }

        boolean canStrike(int n) {
            return within(n, 1, MOST_STRIKES) && n <= Integer.bitCount(words.used);
        }

        /** The least talk together; it leaves with each tongue what is best from there on. */
        long plan(int n) {
            int used = words.used;
            int left = Integer.bitCount(used) - n;
            // Each tongue comes behind all that are parts of it, as these are lower numbers.
            for (int tongue = 0; tongue < MOST_TONGUES && tongue <= used; tongue++) {
                int size = Integer.bitCount(tongue);
                if ((tongue & used) == tongue && size >= left) {
                    Speech speech = tongues.speech(tongue);
                    speech.together = tongue == used ? 0 : tongues.yearly(speech, NONE);
                    if (size > left) {
                        int w = bestNext(tongue);
                        speech.together += tongues.speech(without(tongue, w)).together;
                    }
                }
            }
            return tongues.speech(used).together;
        }

        private int bestNext(int tongue) {
            int best = NONE;
            long least = 0;
            for (int w = 0; w < MOST_WORDS; w++) {
                if (contains(tongue, w)) {
                    long together = tongues.speech(without(tongue, w)).together;
                    if (best == NONE || together < least) {
                        best = w;
                        least = together;
                    }
                }
            }
            return best;
        }

        /** The word at a place of the plan that was made last. */
        int planned(int place) {
            int tongue = words.used;
            int w = bestNext(tongue);
            for (int i = 0; i < place && i < MOST_STRIKES && w != NONE; i++) {
                tongue = without(tongue, w);
                w = bestNext(tongue);
            }
            return w;
        }

        long greedy(int n) {
            long sum = 0;
            int tongue = words.used;
            int w = cheapest(tongue);
            for (int i = 0; i < n && i < MOST_STRIKES && w != NONE; i++) {
                tongue = without(tongue, w);
                sum += tongues.yearly(tongues.speech(tongue), NONE);
                w = cheapest(tongue);
            }
            return sum;
        }

        long follow(Tape tape, int n, int what) {
            long sum = 0;
            int firstMissed = NONE;
            int tongue = words.used;
            for (int i = 0; i < n && i < MOST_WORDS; i++) {
                int w = tape.byteAt(i);
                if (!contains(tongue, w)) {
                    return NEVER;
                }
                tongue = without(tongue, w);
                sum += tongues.yearly(tongues.speech(tongue), NONE);
                if (firstMissed == NONE && tongues.missed(tongue) != 0) {
                    firstMissed = i;
                }
            }
            return what == 0 ? sum : firstMissed;
        }

        int bearable() {
            int strikes = 0;
            int tongue = words.used;
            for (int i = 0; i < MOST_WORDS && tongue != 0; i++) {
                int w = cheapest(tongue);
                if (w == NONE) {
                    return strikes;
                }
                tongue = without(tongue, w);
                if (tongues.missed(tongue) != 0) {
                    return strikes;
                }
                strikes++;
            }
            return strikes;
        }

        /** The tongue of n words with which talk is least. */
        int bestOf(int n) {
            int best = NONE;
            long least = 0;
            for (int tongue = 0; tongue < MOST_TONGUES; tongue++) {
                if (words.isTongue(tongue) && Integer.bitCount(tongue) == n) {
                    long yearly = tongues.yearly(tongues.speech(tongue), NONE);
                    if (best == NONE || yearly < least) {
                        best = tongue;
                        least = yearly;
                    }
                }
            }
            return best;
        }

        /** One struck word for two in use: these three words, or the talk then. */
        long exchange(int what) {
            int best = NONE;
            long least = 0;
            int struck = words.all() & ~words.used;
            // A row of three in one number, so that the least row comes first.
            for (int row = 0; row < 1000; row++) {
                int taken = row / 100;
                int lower = row / 10 % 10;
                int upper = row % 10;
                if (contains(struck, taken) && lower < upper
                        && contains(words.used, lower) && contains(words.used, upper)) {
                    int rest = without(without(words.used, lower), upper);
                    long yearly = tongues.yearly(tongues.speech(rest | 1 << taken), NONE);
                    if (best == NONE || yearly < least) {
                        best = row;
                        least = yearly;
                    }
                }
            }
            switch (what) {
                case 0:
                    return best / 100;
                case 1:
                    return best / 10 % 10;
                case 2:
                    return best % 10;
                default:
                    return least;
            }
        }
    }

    /** Which words are told by which others. */
    private static final class Dictionary {
        private final Lexicon words;
        private final Tongues tongues;
        private final int[] reached = new int[MOST_WORDS];

        Dictionary(Lexicon words, Tongues tongues) {
            this.words = words;
            this.tongues = tongues;
        }

        /** The words by which the others say what a word means; none if they can't. */
        int entry(int w) {
            int others = without(words.used, w);
            Speech speech = tongues.speech(others);
            if (speech.shortest(words.meaningOf(w)) == NEVER) {
                return 0;
            }
            long toSay = 1L << words.meaningOf(w);
            long said = 0;
            int bits = 0;
            for (int i = 0; i < MEANINGS && toSay != said; i++) {
                int meaning = lowestOf(toSay & ~said);
                said |= 1L << meaning;
                int manner = speech.manner(meaning);
                int kind = mannerKind(manner);
                if (kind == PLAIN) {
                    bits |= 1 << mannerFirst(manner);
                } else {
                    bits |= 1 << words.shortestOf(kind, others);
                    toSay |= 1L << mannerFirst(manner);
                    toSay |= kind == NOT ? 0 : 1L << mannerSecond(manner);
                }
            }
            return bits;
        }

        private static int lowestOf(long meanings) {
            for (int m = 0; m < MEANINGS; m++) {
                if ((meanings >> m & 1) == 1) {
                    return m;
                }
            }
            return 0;
        }

        /** The words from which the dictionary leads back to them. */
        int circles() {
            for (int w = 0; w < MOST_WORDS; w++) {
                reached[w] = words.isPlainInUse(w) ? entry(w) : 0;
            }
            for (int through = 0; through < MOST_WORDS; through++) {
                for (int w = 0; w < MOST_WORDS; w++) {
                    if (contains(reached[w], through)) {
                        reached[w] |= reached[through];
                    }
                }
            }
            int bits = 0;
            for (int w = 0; w < MOST_WORDS; w++) {
                if (contains(reached[w], w)) {
                    bits |= 1 << w;
                }
            }
            return bits;
        }

        /** The least set of the fewest words in use that tell all others. */
        int smallestKey() {
            for (int n = 0; n <= MOST_WORDS; n++) {
                for (int key = 0; key < MOST_TONGUES; key++) {
                    if ((key & words.used) == key && Integer.bitCount(key) == n && tellsAll(key)) {
                        return key;
                    }
                }
            }
            return words.used;
        }

        private boolean tellsAll(int key) {
            for (int w = 0; w < MOST_WORDS; w++) {
                if (words.isPlainInUse(w) && !contains(key, w)
                        && tongues.speech(key).shortest(words.meaningOf(w)) == NEVER) {
                    return false;
                }
            }
            return true;
        }
    }
}
