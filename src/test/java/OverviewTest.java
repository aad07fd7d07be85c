import java.lang.reflect.Method;
import java.util.ArrayList;
import java.util.Collections;
import java.util.List;
import java.util.NoSuchElementException;
import java.util.Set;

/** The first and the last section of the document, "What it is" and "Not promised", word by word. */
public final class OverviewTest {
    private static final int NONE = BurstPeeler.NONE;
    private static final int MOST_CALLS = 512;
    private static final String WHAT = "What it is";
    private static final String NOT = "Not promised";
    /** Three USERS that hold one another fast. */
    private static final String RING = "s n4;u a3;u a6;u a5";

    private OverviewTest() {
    }

    private static void due(String call, long got, long want) {
        Check.due(call, got, want);
    }

    // ---- What it is

    private static void burstsAndCopies() {
        Document.says(WHAT, "Bursts sent at random, each in some copies:");
        BurstPeeler x = Check.withField("s n12;u;u;u;d k3");
        for (int user = 0; user < 3; user++) {
            due("copies sent", x.draw(user, user), 3);
            due("where", x.copies(user), Lots.copies(user, 0, 12, 0, 0, 0, 1));
        }
        due("not all in the same slots", x.copies(0) == x.copies(1) && x.copies(1) == x.copies(2) ? 1 : 0, 0);
        Document.says(WHAT, "senders that do not hear one another send copies into slots of frames,");
        BurstPeeler both = Check.withField("s n4f2;u a1;u a1;u t1a1");
        due("two in one slot", both.slot(0, 0), 2);
        due("slots of two frames", both.rule(4), 8);
        due("a copy in the second frame", both.frame(1, 2), 1);
        Document.says(WHAT, "some into the next frame, too;");
        BurstPeeler next = Check.withField("s n4f2;u a1b2");
        due("both copies", next.copies(0), 1 | 2 << 4);
        Document.says(WHAT, "a copy that is alone is understood,");
        BurstPeeler chain = Check.withField("s n4;u a3;u a6;u a2");
        due("alone in slot 0", chain.clear(0, 0), 1);
        due("not alone in slot 1", chain.clear(0, 1), 0);
        due("understood", chain.peel(), 0);
        Document.says(WHAT, "and all other copies of its sender are taken away,");
        due("no more among the unknown", chain.slot(1, 2), 6);
        due("no din for others", chain.din(2, 1), Float.floatToIntBits(1f));
        Document.says(WHAT, "so that others come to be alone;");
        due("understood in slot 2", chain.peel(), 1);
        due("alone by now", chain.clear(2, 1), 1);
        due("understood", chain.peel(), 2);
        Document.says(WHAT, "one that is strong enough is understood among others;");
        BurstPeeler strong = Check.withField("s n2c20;u p20a1;u a1");
        due("strong enough", strong.peel(), 0);
        due("captured", strong.user(0, 4), 2);
        due("not strong enough", Check.withField("s n2c21;u p20a1;u a1").peel(), NONE);
        Document.says(WHAT, "what is never understood holds itself fast;");
        BurstPeeler ring = Check.withField(RING);
        due("never", ring.solved(1), 0);
        due("holds itself", ring.stuck(1), 7);
        Document.says(WHAT, "how many copies one sends is drawn by weights;");
        BurstPeeler weights = Check.withField("u;d k2q3;d k5q1");
        for (int lot = 0; lot < 4; lot++) {
            due("copies by lot " + lot, weights.draw(0, Lots.seedFor(4, lot)), lot < 3 ? 2 : 5);
        }
        Document.says(WHAT, "fields and scripts told as texts;");
        BurstPeeler texts = new BurstPeeler();
        Check.tape(texts, RING);
        due("a field", texts.text(0), 3);
        due("a script", Check.script(texts, "p;t1"), 0);
    }

    private static void whatIsAsked() {
        BurstPeeler x = Check.withField(RING + ";u a8;d k2");
        Document.says(WHAT, "rounds,");
        due("rounds till none is clear", x.solved(2), 1);
        Document.says(WHAT, "what is stuck,");
        due("stuck", x.stuck(3), 7);
        Document.says(WHAT, "the least set that holds itself fast,");
        due("how many", x.stuck(0), 3);
        due("one without copies is less", Check.withField(RING + ";u").stuck(0), 1);
        Document.says(WHAT, "windows that slide along frames,");
        BurstPeeler late = Check.withField("s n2f2;u a1;u a1b1;u t1a2");
        due("one frame wide", late.slid(1), 6);
        due("two frames wide", late.slid(2), 7);
        due("where", late.slidAt(1, 1), 1);
        Document.says(WHAT, "who should be silent,");
        due("one of the ring", x.fewest(0, 1), 1);
        due("the one that helps most", x.less(0), 0);
        Document.says(WHAT, "who should be told,");
        due("one of the ring", x.fewest(1, 1), 1);
        due("the one that helps most", x.key(0), 0);
        Document.says(WHAT, "where one copy more helps most,");
        due("a slot of its own", Check.withField("s n5;u a3;u a6;u a5;u a8").more(1, 0), 4);
        Document.says(WHAT, "shares that are not yet understood as numbers of double precision,");
        due("a half", Check.withField("s n4;u;d k2").share(2, 1), Double.doubleToLongBits(0.5));
        Document.says(WHAT, "the greatest load,");
        due("so many senders", Check.withField("s n12;u;d k2").limit(), 6);
        Document.says(WHAT, "odds of jammed slots;");
        due("a quarter is jammed", Check.withField("u a1").jam(0, 0, 25), 750000000);
    }

    private static void whatIsKept() {
        Document.says(WHAT, "shelves for what is understood in one way alone;");
        BurstPeeler x = Check.withField("u a1;u");
        x.peel();
        x.tell(1);
        due("a single", x.file(0, 0), 0);
        due("one told is none", x.file(0, 1), NONE);
        due("one told", x.file(2, 1), 0);
        Document.says(WHAT, "years by draws,");
        due("a year", Check.withField("u a1").years(1, Lots.seedFor(8, 0)), 1);
        Document.says(WHAT, "a log,");
        due("the latest", x.log(0, 0), 7);
        due("the first", x.log(3, 0), 0);
        Document.says(WHAT, "a status of what was refused,");
        due("one was", x.status(3), 1);
        Document.says(WHAT, "acts undone;");
        due("three still can be", x.undo(), 3);
        due("nobody lies there", x.shelf(2, 0), NONE);
        Document.says(WHAT, "images.");
        x.image();
        x.forget(0);
        x.forget(1);
        due("back", x.back(), 2);
    }

    /** Calls go on till there were so many since the object was made; what it does is known at each. */
    private static BurstPeeler usedFor(int calls) {
        BurstPeeler x = new BurstPeeler();
        x.feed(0x736e3132, 0x3b750000, 0, 0, 0);
        x.text(0);
        for (int call = 2; call < calls; call++) {
            due("call " + (call + 1), x.turn(0, (call - 2) % 12), (call - 2) / 12 % 2 == 0 ? (call - 2) % 12 + 1
                : 11 - (call - 2) % 12);
        }
        return x;
    }

    private static void calls() {
        Document.says(WHAT, "An object is used for at most 512 calls after it has been made;");
        due("the 512th: copies", usedFor(MOST_CALLS - 1).copies(0), copiesBehind(MOST_CALLS - 3));
        due("the 512th: an act", usedFor(MOST_CALLS - 1).tell(0), 1);
        due("the 512th: an act undone", usedFor(MOST_CALLS - 1).undo(), 39);
        due("the 512th: how long the log is", usedFor(MOST_CALLS - 1).count(3), 60);
        due("the 512th: acts that can be undone", usedFor(MOST_CALLS - 1).count(4), 40);
        due("the 512th: years", usedFor(MOST_CALLS - 1).years(1, Lots.seedFor(8, 3)), 1);
        Document.says(WHAT, "what later calls answer is free.");
        due("a later call comes back", comesBack(usedFor(MOST_CALLS), 2000), 1);
    }

    private static long copiesBehind(int turns) {
        long copies = 0;
        for (int i = 0; i < turns; i++) {
            copies ^= 1L << i % 12;
        }
        return copies;
    }

    /** 1, if all these calls come back, with an exception of the document at most. */
    private static int comesBack(BurstPeeler x, int calls) {
        try {
            for (int i = 0; i < calls; i++) {
                x.years(40, i);
                x.draw(i % 3, i);
                x.undo();
                x.log(i % 62, i % 3);
                x.user(0, i % 6);
            }
            x.user(99, 0);
        } catch (NoSuchElementException e) {
            return 1;
        }
        return 0;
    }

    // ---- Not promised

    private static void heldInside() {
        Document.says(NOT, "How the state is held inside the object is free, as are the speed of each call, the text of"
            + " toString and the behaviour of equals and hashCode.");
        for (Method m : BurstPeeler.class.getDeclaredMethods()) {
            boolean isFree = Set.of("toString", "equals", "hashCode").contains(m.getName());
            Check.due(m.getName() + " is left as it is", isFree, false);
        }
    }

    /** The answers of one story, one behind the other. */
    private static List<Long> answers(long seed) {
        BurstPeeler x = Check.withField("s n5f3c12z1;u p30a3b1;u a6;u p50g2a5b2;u t1a7;u t1p20a9b4;u t2a17;d k2q5;d k4");
        List<Long> all = new ArrayList<>();
        for (int i = 0; i < 12; i++) {
            all.add((long) x.years(5, seed + i));
            all.add((long) x.draw(i % 6, seed * i));
            all.add((long) x.solved(1) * 2000 + x.stuck(1));
            all.add((long) x.jam(i % 6, i % 3, 30));
            all.add((long) x.most(0) * 2000 + x.tight());
            all.add(x.copies(i % 6));
            all.add((long) x.undo());
        }
        return all;
    }

    private static void oneObjectAmongOthers() {
        Document.says(NOT, "Use of one object from several threads at once is not promised to be safe.");
        // Objects of their own in several threads are: nothing is shared between them.
        List<List<Long>> alone = new ArrayList<>();
        List<List<Long>> atOnce = new ArrayList<>(Collections.nCopies(8, null));
        List<Thread> threads = new ArrayList<>();
        for (int i = 0; i < 8; i++) {
            int number = i;
            alone.add(answers(i));
            threads.add(new Thread(() -> atOnce.set(number, answers(number))));
        }
        threads.forEach(Thread::start);
        for (Thread thread : threads) {
            try {
                thread.join();
            } catch (InterruptedException e) {
                Thread.currentThread().interrupt();
            }
        }
        Check.due("each object as if it were alone", atOnce.equals(alone), true);
        Document.says(NOT, "Nothing is promised beyond the answers and state changes described above,");
        Check.due("the same calls give the same answers", answers(3).equals(answers(3)), true);
        Check.due("others do not", answers(3).equals(answers(4)), false);
        Document.says(NOT, "and nothing about an object after its 512th call.");
        BurstPeeler used = usedFor(MOST_CALLS + 100);
        comesBack(used, 100);
        due("a new object is as new as ever", answers(5).equals(answers(5)) ? 1 : 0, 1);
        due("a new object", new BurstPeeler().count(0), 0);
    }

    public static void main(String[] args) {
        burstsAndCopies();
        whatIsAsked();
        whatIsKept();
        calls();
        heldInside();
        oneObjectAmongOthers();
        Document.everyWordOf(WHAT);
        Document.everyWordOf(NOT);
        Check.finish();
    }
}
