import java.lang.management.ManagementFactory;

/** All calls of a run live in one room: once an object is made, no call makes anything more. */
public final class RoomTest {
    private static final String FIELD = "sn12f4c3z1;up9a4095b15;ug2a77b9;ut1a5b1;ut2a9;ut3a3;ua7;ua9;ut1a1b1;up50a1;ub3;dk6q9;dk2";

    private static final com.sun.management.ThreadMXBean BEAN =
        (com.sun.management.ThreadMXBean) ManagementFactory.getThreadMXBean();

    private RoomTest() {
    }

    private static long bytes() {
        return BEAN.getThreadAllocatedBytes(Thread.currentThread().getId());
    }

    private static long allCalls(BurstPeeler x, int[] field, int[] script) {
        long sum = 0;
        for (int i = 0; i + 4 < field.length; i += 5) {
            sum += x.feed(field[i], field[i + 1], field[i + 2], field[i + 3], field[i + 4]);
        }
        sum += x.fault(0) + x.text(0);
        sum += x.feed(script[0], script[1], script[2], script[3], script[4]) + x.fault(1) + x.text(1);
        x.end(0);
        for (int i = 0; i < 6; i++) {
            sum += x.years(40, i) + x.draw(i, i) + x.tell(i) + x.swap(0, i) + x.turn(i, i) + x.peel() + x.round();
            sum += x.file(2, i) + x.forget(i) + x.capture(i) + x.undo() + x.log(i, 0) + x.shelf(2, i) + x.image();
            sum += x.back() + x.solved(i) + x.stuck(i) + x.fewest(0, i) + x.tight() + x.touch(i, 7) + x.frame(0, i);
            sum += x.slid(i) + x.slidAt(i, 1) + x.blame(i) + x.senders(i) + x.less(i) + x.key(i) + x.more(i, 0);
            sum += x.jam(i, i, 50) + x.share(9, i) + x.limit() + x.sample(i) + x.load(i) + x.step(0, i, 0) + x.run(0, i);
            sum += x.perform(0) + x.most(i) + x.count(i) + x.rule(i) + x.weight(i) + x.user(i, i) + x.copies(i);
            sum += x.strength(i) + x.din(i, i) + x.margin(i, i) + x.clear(i, i) + x.slot(i, i) + x.status(i) + x.ahead(i);
        }
        return sum;
    }

    private static int[] wordsOf(String text) {
        int[] words = new int[(text.length() + 19) / 20 * 5];
        for (int i = 0; i < text.length(); i++) {
            words[i / 4] |= text.charAt(i) << (24 - 8 * (i % 4));
        }
        return words;
    }

    public static void main(String[] args) {
        int[] field = wordsOf(FIELD);
        int[] script = wordsOf("p;r;t1;f2;x3;c9");
        long object = Long.MAX_VALUE;
        long calls = Long.MAX_VALUE;
        long sum = 0;
        // The machine itself makes things at first use (classes, compiled code): the least of some trials counts.
        for (int trial = 0; trial < 6; trial++) {
            long before = bytes();
            BurstPeeler x = new BurstPeeler();
            long made = bytes();
            sum += allCalls(x, field, script);
            long behind = bytes();
            object = Math.min(object, made - before);
            calls = Math.min(calls, behind - made);
            Check.due("the field is taken", x.count(0), 10);
        }
        System.out.println("an object: " + object + " bytes; all calls: " + calls + " bytes; answers " + sum);
        Check.due("an object is small", object < 60000, true);
        Check.due("calls make nothing", calls == 0, true);
        Check.finish();
    }
}
