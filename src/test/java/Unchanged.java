import java.util.ArrayList;
import java.util.List;
import java.util.NoSuchElementException;
import java.util.function.Supplier;
import java.util.function.ToLongFunction;

/**
 * What is refused answers as told and changes nothing but STATUS; what is asked changes nothing at all.
 * Two objects of one story are compared, only one of which had the call. As an object is good for 512 calls, the
 * questions are put in portions, each to two new objects.
 */
final class Unchanged {
    static final long THROWS = Long.MIN_VALUE;
    private static final int NO_STATUS = -1;
    private static final int PORTION = 300;

    /** A question, and its words for a wrong answer. */
    private record Question(String words, ToLongFunction<BurstPeeler> ask) {
    }

    private final Supplier<BurstPeeler> story;
    private final String call;
    private final ToLongFunction<BurstPeeler> made;
    private final int status;

    private Unchanged(Supplier<BurstPeeler> story, String call, ToLongFunction<BurstPeeler> made, int status) {
        this.story = story;
        this.call = call;
        this.made = made;
        this.status = status;
    }

    /** An ACT that is refused: its answer, the STATUS that counts it, and nothing else. */
    static void refused(Supplier<BurstPeeler> story, String call, ToLongFunction<BurstPeeler> made, int want) {
        Unchanged u = new Unchanged(story, call, made, want);
        Check.due(call, u.made(story.get()), BurstPeeler.NONE);
        u.compareAll();
    }

    /** A call that changes nothing, not even STATUS: its answer. */
    static void asked(Supplier<BurstPeeler> story, String call, ToLongFunction<BurstPeeler> made, long answer) {
        Unchanged u = new Unchanged(story, call, made, NO_STATUS);
        Check.due(call, u.made(story.get()), answer);
        u.compareAll();
    }

    /** Both sides of low .. high: what lies outside answers that, and changes nothing. */
    static void outside(Supplier<BurstPeeler> story, String call, int low, int high, IntCall made, long answer) {
        for (int value : new int[] {low - 1, high + 1, Integer.MIN_VALUE, Integer.MAX_VALUE}) {
            asked(story, call + " of " + value, x -> made.of(x, value), answer);
        }
    }

    /** The same for an ACT, with the STATUS that counts it. */
    static void refusedOutside(Supplier<BurstPeeler> story, String call, int low, int high, IntCall made, int status) {
        for (int value : new int[] {low - 1, high + 1, Integer.MIN_VALUE, Integer.MAX_VALUE}) {
            refused(story, call + " of " + value, x -> made.of(x, value), status);
        }
    }

    interface IntCall {
        long of(BurstPeeler x, int value);
    }

    private long made(BurstPeeler x) {
        try {
            return made.applyAsLong(x);
        } catch (NoSuchElementException e) {
            return THROWS;
        }
    }

    private void compareAll() {
        List<Question> now = questionsOf(story.get());
        for (int from = 0; from < now.size(); from += PORTION) {
            compare("", now.subList(from, Math.min(from + PORTION, now.size())));
        }
        compare(", acts undone", undoing());
        comparePast(", then back", BurstPeeler::back);
        comparePast(", then the tape as a field", x -> x.text(0));
        comparePast(", then the tape as a script", x -> x.text(1));
        comparePast(", then acts", x -> x.years(9, 5) + x.draw(0, 7) + x.peel() + x.round() + x.file(2, 3));
    }

    /** How it goes on behind one more call, by the facts that all other answers are made from. */
    private void comparePast(String how, ToLongFunction<BurstPeeler> next) {
        List<Question> facts = new ArrayList<>();
        BurstPeeler x = story.get();
        next.applyAsLong(x);
        addFacts(facts, x);
        facts.add(0, new Question("that call", next));
        compare(how, facts);
    }

    private void compare(String how, List<Question> questions) {
        BurstPeeler with = story.get();
        BurstPeeler without = story.get();
        made(with);
        for (Question q : questions) {
            long want = q.ask().applyAsLong(without);
            boolean isCounted = status != NO_STATUS && q.words().equals("status " + status);
            Check.due("behind " + call + how + ": " + q.words(), q.ask().applyAsLong(with), isCounted ? want + 1 : want);
        }
    }

    private static List<Question> undoing() {
        List<Question> list = new ArrayList<>();
        for (int i = 0; i <= 40; i++) {
            add(list, "undo", x -> x.undo());
            add(list, "known", x -> x.most(0));
            add(list, "copies", x -> x.copies(0) * 31 + x.copies(2) * 7 + x.copies(4));
            add(list, "capture", x -> x.rule(2));
            add(list, "shelves", x -> x.most(7));
            add(list, "log", x -> x.log(0, 0) * 100 + x.log(0, 1));
        }
        return list;
    }

    private static void add(List<Question> list, String words, ToLongFunction<BurstPeeler> ask) {
        list.add(new Question(words, ask));
    }

    private static void addEach(List<Question> list, String words, int low, int high, IntCall made) {
        for (int i = low; i <= high; i++) {
            int value = i;
            add(list, words + " " + value, x -> made.of(x, value));
        }
    }

    /** The state itself: all that is not worked out from something else. */
    private static void addFacts(List<Question> list, BurstPeeler x) {
        addEach(list, "count", 0, 4, BurstPeeler::count);
        addEach(list, "status", 0, 3, BurstPeeler::status);
        addEach(list, "rule", 0, 4, BurstPeeler::rule);
        addEach(list, "weight", 1, 6, BurstPeeler::weight);
        addEach(list, "copies", 0, x.count(0) - 1, BurstPeeler::copies);
        addEach(list, "most", 0, 8, BurstPeeler::most);
        addEach(list, "fault", 0, 1, BurstPeeler::fault);
        for (int i = 0; i < 5; i++) {
            int what = i;
            addEach(list, "user, " + what, 0, x.count(0) - 1, (y, u) -> y.user(u, what));
        }
        for (int i = 0; i < 3; i++) {
            int j = i;
            addEach(list, "shelf " + j, 0, 9, (y, place) -> y.shelf(j, place));
            addEach(list, "log " + j, 0, x.count(3), (y, entry) -> y.log(entry, j));
        }
    }

    private static List<Question> questionsOf(BurstPeeler x) {
        List<Question> list = new ArrayList<>();
        addFacts(list, x);
        int users = x.count(0) - 1;
        int slots = x.rule(4) - 1;
        for (int i = 0; i <= users; i++) {
            int u = i;
            addEach(list, "din of " + u, 0, slots, (y, s) -> y.din(u, s));
            addEach(list, "margin of " + u, 0, slots, (y, s) -> y.margin(u, s));
            addEach(list, "clear of " + u, 0, slots, (y, s) -> y.clear(u, s));
            addEach(list, "touch of " + u, 0, users, (y, o) -> y.touch(u, o));
            addEach(list, "slidAt of " + u, 1, x.rule(1), (y, w) -> y.slidAt(u, w));
            addEach(list, "more of " + u, 0, 1, (y, what) -> y.more(u, what));
            add(list, "haste of " + u, y -> y.user(u, 5));
            add(list, "strength of " + u, y -> y.strength(u));
            add(list, "blame of " + u, y -> y.blame(u));
            add(list, "jam of " + u, y -> y.jam(u, 0, 37));
        }
        for (int i = 0; i < 5; i++) {
            int what = i;
            addEach(list, "slot, " + what, 0, slots, (y, s) -> y.slot(s, what));
            addEach(list, "frame, " + what, 0, x.rule(1) - 1, (y, f) -> y.frame(f, what));
        }
        addEach(list, "solved", 0, 2, BurstPeeler::solved);
        addEach(list, "ahead", 0, 3, BurstPeeler::ahead);
        addEach(list, "fewest", 0, 1, (y, what) -> y.fewest(0, what) * 2000L + y.fewest(1, what));
        addEach(list, "stuck", 0, 3, BurstPeeler::stuck);
        addEach(list, "slid", 1, 4, BurstPeeler::slid);
        addEach(list, "senders", 0, 6, BurstPeeler::senders);
        addEach(list, "less, key", 0, 1, (y, what) -> y.less(what) * 2000L + y.key(what));
        add(list, "tight", y -> y.tight());
        add(list, "share", y -> y.share(5, 5));
        add(list, "limit", y -> y.limit());
        add(list, "sample", y -> y.sample(3));
        add(list, "load", y -> y.load(100));
        for (int i = 0; i < x.count(1); i++) {
            int script = i;
            addEach(list, "step of " + script, 0, 16, (y, n) -> y.step(script, n, 0) * 10000L + y.step(script, n, 1));
            addEach(list, "run of " + script, 0, 1, (y, what) -> y.run(script, what));
        }
        return list;
    }
}
