import java.util.function.Consumer;
import java.util.function.ToLongFunction;

/** Calls that are refused, and calls that only ask, made to one of two like objects: both must stay alike. */
final class RefusedBounds {
    private static final int LOOKS = 200;

    private RefusedBounds() {
    }

    static void ask(Document doc) {
        doc.promise(Document.TERMS);
        doc.says("A call that is refused (NONE, false) changes nothing but the tape, where it is told");
        changes();
        tapes();
        questions();
        refusedYears();
        refusedTellings();
        full();
        nothingThere();
        tapeAlone();
        askingChangesNothing();
        doc.says("`NONE = -1`: There is none");
        Due.is("NONE", WordYear.NONE, -1);
    }

    /** Six words, one of them struck, wants with musts, a law of each sort, and ten numbers -2 on the tape. */
    private static void some(WordYear x) {
        x.word(0, 1, 2);
        x.word(0, 3, 4);
        x.word(1, 0, 1);
        x.word(2, 0, 1);
        x.word(0, 12, 3);
        x.word(0, 32, 5);
        for (int sort = 0; sort < 3; sort++) {
            x.people(sort, 3 - sort);
            x.want(sort, 2 + sort, 4 + sort, 9);
            x.want(3 - sort, 33 * sort, 3, 0);
        }
        x.silence(200);
        Text.near(x, "kx+y(y<2)");
        Text.law(x, 0, "a+b");
        Text.law(x, 2, "-ae");
        x.strike(4);
        x.feed(-2, -2, -2, -2, -2);
        x.feed(-2, -2, -2, -2, -2);
    }

    private static long[] look(WordYear x) {
        long[] seen = new long[LOOKS];
        int n = 0;
        int all = (1 << x.count(0)) - 1;
        for (int what = 0; what < 24; what++) {
            seen[n++] = x.count(what);
        }
        for (int meaning = 0; meaning < 64; meaning++) {
            seen[n++] = x.sayable(all, meaning, 0) * 10000L + x.brief(all, meaning);
        }
        for (int w = 0; w < 10; w++) {
            seen[n++] = x.costs(w);
            seen[n++] = x.told(w) * 10000L + x.leads(w);
        }
        for (int i = 0; i < 4; i++) {
            seen[n++] = x.talk(all, i);
            seen[n++] = x.spite(i) * 100 + x.vote(i);
            seen[n++] = x.back(i);
            seen[n++] = x.lawIs(i, 0) * 10000L + x.lawIs(i, 1);
            seen[n++] = x.lawIs(i, 2) * 10000L + x.lawIs(i, 3);
        }
        seen[n++] = x.musts(all);
        seen[n++] = x.least();
        seen[n++] = x.order(2, -1);
        seen[n++] = x.gap(2);
        seen[n++] = x.till();
        seen[n++] = x.kept(2, 0);
        seen[n++] = x.round();
        seen[n++] = x.fewest();
        seen[n++] = x.madeUp(1, 1);
        // The numbers on the tape are what the empty tongue can say.
        seen[n++] = x.check(0, Math.min(64, x.count(5) / 4));
        return seen;
    }

    private static void unchanged(String name, Consumer<WordYear> story, ToLongFunction<WordYear> call, long due) {
        WordYear x = new WordYear();
        WordYear twin = new WordYear();
        story.accept(x);
        story.accept(twin);
        Due.is(name, call.applyAsLong(x), due);
        long[] seen = look(x);
        long[] expected = look(twin);
        int alike = 0;
        while (alike < LOOKS && seen[alike] == expected[alike]) {
            alike++;
        }
        Due.is("behind " + name + " the first answer that is another", alike, LOOKS);
    }

    private static void refused(String name, ToLongFunction<WordYear> call, long due) {
        unchanged(name, RefusedBounds::some, call, due);
    }

    private static void changes() {
        refused("word(-1, 0, 1)", x -> x.word(-1, 0, 1), -1);
        refused("word(4, 0, 1)", x -> x.word(4, 0, 1), -1);
        refused("word(0, -1, 1)", x -> x.word(0, -1, 1), -1);
        refused("word(0, 64, 1)", x -> x.word(0, 64, 1), -1);
        refused("word(0, 0, 0)", x -> x.word(0, 0, 0), -1);
        refused("word(0, 0, 10)", x -> x.word(0, 0, 10), -1);
        refused("people(-1, 1)", x -> x.people(-1, 1) ? 1 : 0, 0);
        refused("people(4, 1)", x -> x.people(4, 1) ? 1 : 0, 0);
        refused("people(0, -1)", x -> x.people(0, -1) ? 1 : 0, 0);
        refused("people(0, 1001)", x -> x.people(0, 1001) ? 1 : 0, 0);
        refused("want(-1, 1, 1, 1)", x -> x.want(-1, 1, 1, 1), -1);
        refused("want(4, 1, 1, 1)", x -> x.want(4, 1, 1, 1), -1);
        refused("want(0, -1, 1, 1)", x -> x.want(0, -1, 1, 1), -1);
        refused("want(0, 64, 1, 1)", x -> x.want(0, 64, 1, 1), -1);
        refused("want(0, 1, -1, 1)", x -> x.want(0, 1, -1, 1), -1);
        refused("want(0, 1, 1001, 1)", x -> x.want(0, 1, 1001, 1), -1);
        refused("want(0, 1, 1, -1)", x -> x.want(0, 1, 1, -1), -1);
        refused("want(0, 1, 1, 2001)", x -> x.want(0, 1, 1, 2001), -1);
        refused("often(-1, 1)", x -> x.often(-1, 1) ? 1 : 0, 0);
        refused("often(6, 1)", x -> x.often(6, 1) ? 1 : 0, 0);
        refused("often(0, -1)", x -> x.often(0, -1) ? 1 : 0, 0);
        refused("often(0, 1001)", x -> x.often(0, 1001) ? 1 : 0, 0);
        refused("silence(-1)", x -> x.silence(-1) ? 1 : 0, 0);
        refused("silence(5001)", x -> x.silence(5001) ? 1 : 0, 0);
        refused("strike(4), struck", x -> x.strike(4), -1);
        refused("strike(6), not there", x -> x.strike(6), -1);
        refused("strike(-1)", x -> x.strike(-1), -1);
        refused("strike(10)", x -> x.strike(10), -1);
    }

    private static void tapes() {
        refused("near(0)", x -> x.near(0), -1);
        refused("near(-1)", x -> x.near(-1), -1);
        refused("near(41) of 40", x -> x.near(41), -1);
        refused("near(161)", x -> x.near(161), -1);
        refused("row(0, 0)", x -> x.row(0, 0), -1);
        refused("row(11, 0)", x -> x.row(11, 0), -1);
        refused("row(1, 2)", x -> x.row(1, 2), -1);
        refused("row(1, -1)", x -> x.row(1, -1), -1);
        refused("law(-1, 1)", x -> x.law(-1, 1), -1);
        refused("law(4, 1)", x -> x.law(4, 1), -1);
        refused("law(0, 0)", x -> x.law(0, 0), -1);
        refused("law(0, 41) of 40", x -> x.law(0, 41), -1);
        refused("law(0, 61)", x -> x.law(0, 61), -1);
        refused("check(64, 1)", x -> x.check(64, 1), -2);
        refused("check(-1, 1)", x -> x.check(-1, 1), -2);
        refused("check(63, 11) of 10", x -> x.check(63, 11), -2);
        refused("check(63, 65)", x -> x.check(63, 65), -2);
        refused("check(63, -1)", x -> x.check(63, -1), -2);
    }

    private static void questions() {
        refused("brief(64, 1)", x -> x.brief(64, 1), -1);
        refused("brief(1, 64)", x -> x.brief(1, 64), -1);
        refused("how(1, 1, 3)", x -> x.how(1, 1, 3), -1);
        refused("how(1, 63, 0), not said", x -> x.how(1, 63, 0), -2);
        refused("sayable(1, 1, 2)", x -> x.sayable(1, 1, 2), -1);
        refused("sayable(1, 60, 0), never", x -> x.sayable(1, 60, 0), -2);
        refused("talk(64, 0)", x -> x.talk(64, 0), -1);
        refused("talk(1, 4)", x -> x.talk(1, 4), -1);
        refused("musts(64)", x -> x.musts(64), -1);
        refused("count(8)", x -> x.count(8), -1);
        refused("count(24)", x -> x.count(24), -1);
    }

    private static void refusedYears() {
        refused("costs(4), struck", x -> x.costs(4), -1000000000);
        refused("costs(6), not there", x -> x.costs(6), -1000000000);
        refused("spite(4)", x -> x.spite(4), -1);
        refused("vote(4)", x -> x.vote(4), -1);
        refused("order(0, -1)", x -> x.order(0, -1), -1);
        refused("order(6, -1) of five", x -> x.order(6, -1), -1);
        refused("order(2, 2)", x -> x.order(2, 2), -1);
        refused("gap(0)", x -> x.gap(0), -1);
        refused("gap(6) of five", x -> x.gap(6), -1);
        refused("kept(7, 0)", x -> x.kept(7, 0), -1);
        refused("kept(1, 2)", x -> x.kept(1, 2), -1);
        refused("back(4)", x -> x.back(4), -1);
    }

    private static void refusedTellings() {
        refused("told(4), struck", x -> x.told(4), -1);
        refused("told(2), a NOT", x -> x.told(2), -1);
        refused("leads(4), struck", x -> x.leads(4), -1);
        refused("leads(2), a NOT", x -> x.leads(2), -1);
        refused("lawIs(1, 0), not told", x -> x.lawIs(1, 0), -1);
        refused("lawIs(0, 4)", x -> x.lawIs(0, 4), -1);
        refused("madeUp(0, 0)", x -> x.madeUp(0, 0), -1);
        refused("madeUp(10, 0)", x -> x.madeUp(10, 0), -1);
        refused("madeUp(1, 2)", x -> x.madeUp(1, 2), -1);
    }

    private static void allThere(WordYear x) {
        for (int w = 0; w < 10; w++) {
            x.word(w < 8 ? 0 : w - 7, 5 * w, 1 + w % 4);
        }
        for (int i = 0; i < 24; i++) {
            x.want(i % 4, 5 * i % 64, 1, i % 3);
        }
        for (int n = 0; n < 15; n++) {
            x.feed(-2, -2, -2, -2, -2);
        }
    }

    private static void full() {
        unchanged("an eleventh word", RefusedBounds::allThere, x -> x.word(0, 1, 1), -1);
        unchanged("a 25th want", RefusedBounds::allThere, x -> x.want(0, 1, 1, 1), -1);
        unchanged("a feed beyond 300", RefusedBounds::allThere, x -> x.feed(1, 2, 3, 4, 5), -1);
        unchanged("near(161) of 300", RefusedBounds::allThere, x -> x.near(161), -1);
        unchanged("law(0, 61) of 300", RefusedBounds::allThere, x -> x.law(0, 61), -1);
        unchanged("row(11, 0) of 300", RefusedBounds::allThere, x -> x.row(11, 0), -1);
        unchanged("check(0, 65) of 300", RefusedBounds::allThere, x -> x.check(0, 65), -2);
        unchanged("back(0), none is struck", RefusedBounds::allThere, x -> x.back(0), -1);
        unchanged("order(7, -1)", RefusedBounds::allThere, x -> x.order(7, -1), -1);
        unchanged("vote(0), nobody votes", RefusedBounds::allThere, x -> x.vote(0), -1);
    }

    private static void nothing(WordYear x) {
        Due.is("a new one", x.count(0), 0);
    }

    private static void nothingThere() {
        unchanged("strike(0)", RefusedBounds::nothing, x -> x.strike(0), -1);
        unchanged("often(0, 1)", RefusedBounds::nothing, x -> x.often(0, 1) ? 1 : 0, 0);
        unchanged("near(1)", RefusedBounds::nothing, x -> x.near(1), -1);
        unchanged("law(0, 1)", RefusedBounds::nothing, x -> x.law(0, 1), -1);
        unchanged("row(1, 0)", RefusedBounds::nothing, x -> x.row(1, 0), -1);
        unchanged("check(0, 1)", RefusedBounds::nothing, x -> x.check(0, 1), -2);
        unchanged("brief(1, 0)", RefusedBounds::nothing, x -> x.brief(1, 0), -1);
        unchanged("least()", RefusedBounds::nothing, WordYear::least, -1);
        unchanged("spite(0)", RefusedBounds::nothing, x -> x.spite(0), -1);
        unchanged("vote(0)", RefusedBounds::nothing, x -> x.vote(0), -1);
        unchanged("order(1, -1)", RefusedBounds::nothing, x -> x.order(1, -1), -1);
        unchanged("gap(1)", RefusedBounds::nothing, x -> x.gap(1), -1);
        unchanged("kept(1, 0)", RefusedBounds::nothing, x -> x.kept(1, 0), -1);
        unchanged("back(0)", RefusedBounds::nothing, x -> x.back(0), -1);
        unchanged("lawIs(0, 0)", RefusedBounds::nothing, x -> x.lawIs(0, 0), -1);
    }

    /** These use the tape up, and change nothing else. */
    private static void onlyTheTape(String name, ToLongFunction<WordYear> call, long due) {
        unchanged(name, RefusedBounds::some, x -> {
            long answer = call.applyAsLong(x);
            Due.is("the tape behind " + name, x.count(5), 0);
            x.feed(-2, -2, -2, -2, -2);
            x.feed(-2, -2, -2, -2, -2);
            return answer;
        }, due);
    }

    private static void tapeAlone() {
        onlyTheTape("near(40), a fault", x -> x.near(40), -1000);
        onlyTheTape("law(0, 40), a fault", x -> x.law(0, 40), -1000);
        onlyTheTape("law(1, 1), a fault", x -> x.law(1, 1), -1000);
        onlyTheTape("row(1, 0), no such word", x -> x.row(1, 0), -2);
        onlyTheTape("row(10, 1), no such word", x -> x.row(10, 1), -2);
        onlyTheTape("check(63, 10), not right", x -> x.check(63, 10), 0);
        onlyTheTape("check(0, 0)", x -> x.check(0, 0), -1);
    }

    private static void asks(String name, ToLongFunction<WordYear> call) {
        WordYear x = new WordYear();
        some(x);
        refused(name, call, call.applyAsLong(x));
    }

    private static void askingChangesNothing() {
        asks("brief(63, 2)", x -> x.brief(63, 2));
        asks("how(63, 2, 1)", x -> x.how(63, 2, 1));
        asks("sayable(31, 2, 1)", x -> x.sayable(31, 2, 1));
        asks("talk(63, -1)", x -> x.talk(63, -1));
        asks("musts(63)", x -> x.musts(63));
        asks("costs(0)", x -> x.costs(0));
        asks("least()", WordYear::least);
        asks("spite(0)", x -> x.spite(0));
        asks("vote(1)", x -> x.vote(1));
        asks("order(5, 4)", x -> x.order(5, 4));
        asks("gap(5)", x -> x.gap(5));
        asks("till()", WordYear::till);
        asks("kept(3, 0)", x -> x.kept(3, 0));
        asks("back(0)", x -> x.back(0));
        asks("told(0)", x -> x.told(0));
        asks("leads(0)", x -> x.leads(0));
        asks("round()", WordYear::round);
        asks("fewest()", WordYear::fewest);
        asks("lawIs(0, 3)", x -> x.lawIs(0, 3));
        asks("madeUp(1, 0)", x -> x.madeUp(1, 0));
    }
}
