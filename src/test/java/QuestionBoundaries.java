import java.util.function.IntPredicate;
import java.util.function.Supplier;

/** Boundary cases of what is asked: Terms 2 and 3, promises 6 to 14, 29 to 47, 51 and 54. */
final class QuestionBoundaries {
    private static final int NONE = BurstPeeler.NONE;
    private static final int HIDDEN = BurstPeeler.HIDDEN;
    private static final int ALL_PARTS = 1000000000;
    private static final Supplier<BurstPeeler> EMPTY = Stories::empty;
    private static final Supplier<BurstPeeler> BUSY = Stories::busy;
    private static final Supplier<BurstPeeler> RING = Stories::ring;
    /** 0 and 2 are CLEAR at once, 1 behind them. */
    private static final String CHAIN = "s n4;u a3;u a6;u a12";
    /** Ten USERS, each CLEAR behind the one ahead of it. */
    private static final String ROW = "sn12;ua3;ua6;ua12;ua24;ua48;ua96;ua192;ua384;ua768;ua512";

    private QuestionBoundaries() {
    }

    static void all() {
        slotsAndUsers();
        strengthAndDin();
        clearCopies();
        rule();
        weight();
        user();
        copies();
        slot();
        solvedAndAhead();
        fewest();
        blame();
        tight();
        touchAndParts();
        frame();
        stuck();
        slid();
        senders();
        lessAndKey();
        more();
        jam();
        share();
        limit();
        sample();
        load();
        most();
        count();
    }

    private static void due(String call, long got, long want) {
        Check.due(call, got, want);
    }

    private static BurstPeeler field(String text) {
        return Check.withField(text);
    }

    // ---- Terms 2

    private static void slotsAndUsers() {
        Document.terms("SLOTS are numbered through all FRAMES (0 on).");
        BurstPeeler x = field("s n12f4;u a1;u t1a1;u t2a1;u t3a2049");
        int[] first = {0, 12, 24, 36};
        for (int user = 0; user < 4; user++) {
            due("the first slot of frame " + user, x.slot(first[user], 2), 1 << user);
        }
        due("the last slot", x.slot(47, 2), 8);
        due("its bit", x.copies(3), 1L << 47 | 1L << 36);
        due("one ahead of the first", x.slot(-1, 2), HIDDEN);
        due("one behind the last", x.slot(48, 2), HIDDEN);
        Document.terms("USERS are UNKNOWN (all at first),");
        for (int user = 0; user < 4; user++) {
            due("unknown", x.user(user, 4), 0);
        }
        due("nobody is known", x.most(0), 0);
        Document.terms("or known: 1 as a SINGLE, 2 CAPTURED, 3 TOLD.");
        int[] ways = {2, 1, 0, 3, 0};
        for (int user = 0; user < 5; user++) {
            due("way of " + user, Stories.busy().user(user, 4), ways[user]);
        }
    }

    private static int bits(float value) {
        return Float.floatToIntBits(value);
    }

    private static void strengthAndDin() {
        Document.terms("STRENGTH of a USER: POWER by 10, by FAR, by FAR again, one behind the other, in single precision.");
        int differ = 0;
        for (int p = 1; p <= 99; p++) {
            BurstPeeler x = field("up" + p + ";up" + p + "g2;up" + p + "g3;up" + p + "g4;up" + p + "g5;up" + p + "g6;up" + p
                + "g7;up" + p + "g8;up" + p + "g9");
            for (int g = 1; g <= 9; g++) {
                float due = p / 10f / g / g;
                due("strength of p" + p + "g" + g, x.strength(g - 1), bits(due));
                differ += due != p / 10f / (float) (g * g) && due != (float) (p / 10.0 / g / g) ? 1 : 0;
            }
        }
        due("other ways would differ", differ > 0 ? 1 : 0, 1);
        Document.promise(10, "STRENGTH of a USER, as the bits of a number in single precision.");
        Unchanged.asked(BUSY, "strength(0)", x -> x.strength(0), bits(9f));
        Unchanged.asked(BUSY, "strength(4)", x -> x.strength(4), bits(4f));
        Document.promise(10, "NONE: no such one.");
        Unchanged.outside(BUSY, "strength", 0, 4, BurstPeeler::strength, NONE);
        Unchanged.asked(EMPTY, "strength(0)", x -> x.strength(0), NONE);
        Document.terms("DIN for a COPY: NOISE by 10, then the STRENGTHS of all other UNKNOWN USERS with a COPY in that SLOT"
            + " added one by one, numbers rising, all in single precision.");
        // In each of these every other order, and double precision, makes another number.
        dinOfFourth(5, "p78g4", "p62g9", "p1g5", 78f / 10f / 4 / 4, 62f / 10f / 9 / 9, 1f / 10f / 5 / 5);
        dinOfFourth(68, "p68g2", "p94g3", "p12g9", 68f / 10f / 2 / 2, 94f / 10f / 3 / 3, 12f / 10f / 9 / 9);
        dinOfFourth(71, "p60g7", "p42g2", "p4g1", 60f / 10f / 7 / 7, 42f / 10f / 2 / 2, 4f / 10f);
        Document.promise(11, "DIN for a COPY of an UNKNOWN USER in a SLOT, as such bits.");
        Unchanged.asked(BUSY, "din(2, 1)", x -> x.din(2, 1), bits(4f));
        Unchanged.asked(RING, "din(0, 0)", x -> x.din(0, 0), bits(1f));
        due("no din", field("u a1").din(0, 0), 0);
        copyIsRefused(11, "din", (x, user, slot) -> x.din(user, slot));
    }

    /** Three others with a COPY in SLOT 0, and one that is known: the DIN is for the fourth there, and for the second. */
    private static void dinOfFourth(int noise, String a, String b, String c, float... s) {
        BurstPeeler x = field("s z" + noise + ";u a1" + a + ";u a1" + b + ";u a1" + c + ";u a1p50g3;u a1p77;u a2p33");
        x.tell(4);
        float n = noise / 10f;
        due("din for the fourth", x.din(3, 0), bits(n + s[0] + s[1] + s[2]));
        due("din for the second", x.din(1, 0), bits(n + s[0] + s[2] + 50f / 10f / 3 / 3));
        due("numbers falling would differ", n + s[0] + s[1] + s[2] != n + s[2] + s[1] + s[0] ? 1 : 0, 1);
        due("noise last would differ", n + s[0] + s[1] + s[2] != s[0] + s[1] + s[2] + n ? 1 : 0, 1);
    }

    private interface CopyCall {
        long of(BurstPeeler x, int user, int slot);
    }

    /** What din, margin and clear refuse: no such COPY (nor USER, SLOT, FIELD), a known USER. */
    private static void copyIsRefused(int promise, String name, CopyCall call) {
        Document.promise(promise, "NONE: no such COPY,");
        Unchanged.asked(BUSY, name + "(2, 0)", x -> call.of(x, 2, 0), NONE);
        Unchanged.asked(BUSY, name + "(4, 2), turned away", x -> call.of(x, 4, 2), NONE);
        Unchanged.outside(BUSY, name + ", user", 0, 4, (x, user) -> call.of(x, user, 1), NONE);
        Unchanged.outside(BUSY, name + ", slot", 0, 5, (x, slot) -> call.of(x, 2, slot), NONE);
        // A shift goes round by 64: SLOT 65 is not SLOT 1.
        Unchanged.asked(BUSY, name + "(2, 65)", x -> call.of(x, 2, 65), NONE);
        Unchanged.asked(EMPTY, name + "(0, 0)", x -> call.of(x, 0, 0), NONE);
        Document.promise(promise, "the USER is known.");
        Unchanged.asked(BUSY, name + " of one captured", x -> call.of(x, 0, 0), NONE);
        Unchanged.asked(BUSY, name + " of a single", x -> call.of(x, 1, 0), NONE);
        Unchanged.asked(BUSY, name + " of one told", x -> call.of(x, 3, 3), NONE);
    }

    private static void clearCopies() {
        Document.terms("A COPY of an UNKNOWN USER is CLEAR: with CAPTURE 0, if no other UNKNOWN USER has one in its SLOT;");
        BurstPeeler x = field("s z99;u p1g9a1;u p99a3;u p99a4");
        due("alone, whatever the noise", x.clear(2, 2), 1);
        due("alone in its second slot", x.clear(1, 1), 1);
        due("not alone", x.clear(0, 0), 0);
        due("not alone, though strong", x.clear(1, 0), 0);
        x.tell(1);
        due("the other one is known", x.clear(0, 0), 1);
        Document.terms("else, if its STRENGTH is no less than CAPTURE by 10 times DIN (each in single precision).");
        due("as much", field("s c10z10;u p10a1").clear(0, 0), 1);
        due("a tenth less", field("s c10z10;u p9a1").clear(0, 0), 0);
        due("by one tenth more", field("s c11z10;u p10a1").clear(0, 0), 0);
        due("without any din", field("s c99;u p1g9a1").clear(0, 0), 1);
        due("as much as another", field("s c10;u a1;u a1").clear(1, 0), 1);
        due("less than two", field("s c10;u p19a1;u a1;u a1").clear(0, 0), 0);
        due("as much as two", field("s c10;u p20a1;u a1;u a1").clear(0, 0), 1);
        // 9.0f * 0.1f is more than 0.9f, though nine tenths are nine tenths.
        due("p9 by z1, c90", field("s c90z1;u p9a1").clear(0, 0), 0);
        due("p9 by z90, c1", field("s c1z90;u p9a1").clear(0, 0), 0);
        // 5.0f * 0.1f is 0.5f, though 0.1f is more than a tenth.
        due("p5 by z1, c50", field("s c50z1;u p5a1").clear(0, 0), 1);
        due("p7 by z2, c35", field("s c35z2;u p7a1").clear(0, 0), 1);
        Document.terms("MARGIN of a COPY: STRENGTH less CAPTURE by 10 times DIN, in single precision.");
        due("0", field("s c10z10;u p10a1").margin(0, 0), 0);
        due("p9 by z1, c90", field("s c90z1;u p9a1").margin(0, 0), bits(0.9f - 9f * 0.1f));
        due("p5 by z1, c50", field("s c50z1;u p5a1").margin(0, 0), 0);
        due("capture 0", field("s z99;u p5a1;u p99a1").margin(0, 0), bits(0.5f));
        due("far below", field("s c99z99;u p1a1;u p99a1").margin(0, 0), bits(0.1f - 9.9f * (9.9f + 9.9f)));
        Document.promise(12, "MARGIN of a COPY of an UNKNOWN USER in a SLOT, as such bits.");
        Unchanged.asked(BUSY, "margin(2, 1)", y -> y.margin(2, 1), bits(1f - 9.9f * 4f));
        Unchanged.asked(BUSY, "margin(4, 1)", y -> y.margin(4, 1), bits(4f - 9.9f * 1f));
        copyIsRefused(12, "margin", (y, user, slot) -> y.margin(user, slot));
        Document.promise(12, "(A good one may be NONE, too.)");
        due("below 0, with a sign", field("s c20;u a1;u a1").margin(0, 0), bits(-1f));
        Document.promise(13, "Whether a COPY is CLEAR (1, 0).");
        Unchanged.asked(BUSY, "clear(2, 1)", y -> y.clear(2, 1), 0);
        Unchanged.asked(() -> field(CHAIN), "clear(0, 0)", y -> y.clear(0, 0), 1);
        copyIsRefused(13, "clear", (y, user, slot) -> y.clear(user, slot));
    }

    // ---- promises 6 to 9 and 14

    private static void rule() {
        Document.promise(6, "0 SLOTS of a FRAME, 1 FRAMES, 2 CAPTURE as now, 3 NOISE, 4 all SLOTS.");
        int[] want = {12, 4, 7, 99, 48};
        BurstPeeler x = field("s n12f4c98z99;u");
        x.capture(7);
        for (int what = 0; what < 5; what++) {
            due("rule(" + what + ")", x.rule(what), want[what]);
        }
        due("rule(4) of the least", field("s n2;u").rule(4), 2);
        Unchanged.asked(BUSY, "rule(0)", y -> y.rule(0), 3);
        Unchanged.asked(BUSY, "rule(4)", y -> y.rule(4), 6);
        Document.promise(6, "NONE: no FIELD,");
        for (int what = 0; what < 5; what++) {
            int w = what;
            Unchanged.asked(EMPTY, "rule(" + w + ")", y -> y.rule(w), NONE);
        }
        Document.promise(6, "no such what.");
        Unchanged.outside(BUSY, "rule", 0, 4, BurstPeeler::rule, NONE);
    }

    private static void weight() {
        Document.promise(7, "The WEIGHT of k COPIES (1 .. 6; 0: none).");
        int[] want = {0, 3, 0, 0, 0, 1};
        for (int k = 1; k <= 6; k++) {
            int of = k;
            Unchanged.asked(BUSY, "weight(" + k + ")", x -> x.weight(of), want[k - 1]);
            Unchanged.asked(RING, "weight(" + k + ")", x -> x.weight(of), 0);
        }
        Document.promise(7, "NONE: no FIELD,");
        Unchanged.asked(EMPTY, "weight(1)", x -> x.weight(1), NONE);
        Unchanged.asked(EMPTY, "weight(6)", x -> x.weight(6), NONE);
        Document.promise(7, "no such k.");
        Unchanged.outside(BUSY, "weight", 1, 6, BurstPeeler::weight, NONE);
    }

    private static void user() {
        Document.promise(8, "Of a USER: 0 POWER, 1 FAR, 2 its FRAME, 3 how many COPIES, 4 how it is known"
            + " (0 UNKNOWN, 1 .. 3),");
        BurstPeeler x = field("s n12f4;u;u p99g9t3a4095;u p1t2a4095b4095");
        int[][] want = {{10, 1, 0, 0, 0}, {99, 9, 3, 12, 0}, {1, 1, 2, 24, 0}};
        for (int user = 0; user < 3; user++) {
            for (int what = 0; what < 5; what++) {
                due("user(" + user + ", " + what + ")", x.user(user, what), want[user][what]);
            }
        }
        Unchanged.asked(BUSY, "user(0, 4)", y -> y.user(0, 4), 2);
        Unchanged.asked(BUSY, "user(1, 4)", y -> y.user(1, 4), 1);
        Unchanged.asked(BUSY, "user(3, 4)", y -> y.user(3, 4), 3);
        Document.terms("HASTE of a USER: behind how many ROUNDS it is known.");
        BurstPeeler row = field(ROW);
        for (int user = 0; user < 10; user++) {
            due("haste of " + user, row.user(user, 5), 10 - (9 - user));
        }
        Document.promise(8, "5 HASTE (0: known now; NONE: never).");
        Unchanged.asked(BUSY, "known now", y -> y.user(3, 5), 0);
        Unchanged.asked(BUSY, "never", y -> y.user(2, 5), NONE);
        Unchanged.asked(() -> field(CHAIN), "behind one", y -> y.user(0, 5), 1);
        Unchanged.asked(() -> field(CHAIN), "behind two", y -> y.user(1, 5), 2);
        Unchanged.asked(() -> field("u"), "without copies", y -> y.user(0, 5), NONE);
        Document.promise(8, "NoSuchElementException: no such ones.");
        Unchanged.outside(BUSY, "user, user", 0, 4, (y, user) -> y.user(user, 0), Unchanged.THROWS);
        Unchanged.outside(BUSY, "user, what", 0, 5, (y, what) -> y.user(0, what), Unchanged.THROWS);
        for (int what = 0; what < 6; what++) {
            int w = what;
            Unchanged.asked(EMPTY, "user(0, " + w + ")", y -> y.user(0, w), Unchanged.THROWS);
        }
        Unchanged.asked(() -> field("u;u;u;u;u;u;u;u;u;u"), "an eleventh", y -> y.user(10, 4), Unchanged.THROWS);
    }

    private static void copies() {
        Document.promise(9, "COPIES of a USER as bits of all SLOTS.");
        BurstPeeler x = field("s n12f4;u t3a4095;u t2a4095b4095;u a1;u");
        long[] want = {0xfffL << 36, 0xffffffL << 24, 1, 0};
        for (int user = 0; user < 4; user++) {
            due("copies(" + user + ")", x.copies(user), want[user]);
        }
        Unchanged.asked(BUSY, "copies(0), known", y -> y.copies(0), 9);
        Unchanged.asked(BUSY, "copies(4)", y -> y.copies(4), 2);
        Document.promise(9, "0: no such one, too.");
        Unchanged.outside(BUSY, "copies", 0, 4, BurstPeeler::copies, 0);
        Unchanged.asked(EMPTY, "copies(0)", y -> y.copies(0), 0);
        Unchanged.asked(() -> field("u"), "without copies", y -> y.copies(0), 0);
    }

    private static void slot() {
        Document.promise(14, "Of a SLOT: 0 how many COPIES, 1 of them of UNKNOWN USERS, 2 who these are (bits),"
            + " 3 who has a CLEAR one (bits).");
        BurstPeeler x = Stories.busy();
        int[][] want = {{2, 0, 0, 0}, {2, 2, 20, 0}, {0, 0, 0, 0}, {2, 0, 0, 0}, {1, 0, 0, 0}, {1, 0, 0, 0}};
        for (int slot = 0; slot < 6; slot++) {
            for (int what = 0; what < 4; what++) {
                due("slot(" + slot + ", " + what + ")", x.slot(slot, what), want[slot][what]);
            }
        }
        x.capture(40);
        due("one is clear", x.slot(1, 3), 16);
        BurstPeeler ten = field("s c1;ua1;ua1;ua1;ua1;ua1;ua1;ua1;ua1;ua1;ua1");
        int[] all = {10, 10, 1023, 1023};
        for (int what = 0; what < 4; what++) {
            due("ten, all clear", ten.slot(0, what), all[what]);
        }
        Unchanged.asked(BUSY, "slot(1, 2)", y -> y.slot(1, 2), 20);
        Document.promise(14, "HIDDEN: no such ones.");
        Unchanged.outside(BUSY, "slot, slot", 0, 5, (y, slot) -> y.slot(slot, 0), HIDDEN);
        Unchanged.outside(BUSY, "slot, what", 0, 3, (y, what) -> y.slot(1, what), HIDDEN);
        Unchanged.asked(EMPTY, "slot(0, 0)", y -> y.slot(0, 0), HIDDEN);
        Unchanged.asked(EMPTY, "slot(0, 3)", y -> y.slot(0, 3), HIDDEN);
    }

    // ---- what would come

    private static void solvedAndAhead() {
        Supplier<BurstPeeler> chain = () -> field(CHAIN);
        Supplier<BurstPeeler> row = () -> field(ROW);
        Document.terms("(Apart, from as it is now.)");
        Unchanged.asked(BUSY, "those known now stay so", x -> x.solved(1), 11);
        BurstPeeler later = field("s n3;u a3;u a6;u a5");
        due("as it is", later.solved(0), 0);
        later.tell(0);
        due("as it is then", later.solved(0), 3);
        later.undo();
        due("as it was", later.solved(0), 0);
        later.turn(0, 1);
        due("by its copies now", later.solved(0), 3);
        later.undo();
        later.capture(10);
        due("by capture now", later.solved(0), 3);
        Document.terms("SOLVED: ROUNDS till none is CLEAR: how many ROUNDS; who is known then (bits).");
        Unchanged.asked(row, "ten rounds", x -> x.solved(2), 10);
        Unchanged.asked(row, "all ten", x -> x.solved(1), 1023);
        Unchanged.asked(RING, "no round", x -> x.solved(2), 0);
        Unchanged.asked(RING, "nobody", x -> x.solved(1), 0);
        Unchanged.asked(() -> field("s n4;u a1;u a2;u a12;u a12"), "one round, two stay", x -> x.solved(2), 1);
        Document.promise(29, "SOLVED: how many are known (0), who (1, bits), how many ROUNDS (2).");
        Unchanged.asked(chain, "how many", x -> x.solved(0), 3);
        Unchanged.asked(chain, "who", x -> x.solved(1), 7);
        Unchanged.asked(chain, "rounds", x -> x.solved(2), 2);
        Unchanged.asked(BUSY, "with those known now", x -> x.solved(0), 3);
        Document.promise(29, "NONE: no FIELD,");
        Unchanged.asked(EMPTY, "solved(0)", x -> x.solved(0), NONE);
        Unchanged.asked(EMPTY, "solved(2)", x -> x.solved(2), NONE);
        Document.promise(29, "no such what.");
        Unchanged.outside(BUSY, "solved", 0, 2, BurstPeeler::solved, NONE);
        Document.terms("AHEAD: who is known behind n ROUNDS (0 .. 20).");
        for (int n = 0; n <= 20; n++) {
            due("ahead(" + n + ")", row.get().ahead(n), (1 << Math.min(n, 10)) - 1);
        }
        Document.promise(30, "AHEAD (bits).");
        Unchanged.asked(chain, "ahead(0)", x -> x.ahead(0), 0);
        Unchanged.asked(chain, "ahead(1)", x -> x.ahead(1), 5);
        Unchanged.asked(chain, "ahead(20)", x -> x.ahead(20), 7);
        Unchanged.asked(BUSY, "those known now", x -> x.ahead(0), 11);
        Document.promise(30, "NONE: no FIELD,");
        Unchanged.asked(EMPTY, "ahead(0)", x -> x.ahead(0), NONE);
        Document.promise(30, "out of bounds.");
        Unchanged.outside(BUSY, "ahead", 0, 20, BurstPeeler::ahead, NONE);
    }

    private static void fewest() {
        Document.terms("FEWEST: the least set of UNKNOWN USERS that, SILENT (without COPIES) in one way, TOLD in the other"
            + " one, would have all others known, SOLVED");
        BurstPeeler ten = field("sn12;ua1;ua1;ua1;ua1;ua1;ua1;ua1;ua1;ua1;ua1");
        BurstPeeler bare = field("u;u;u;u;u;u;u;u;u;u");
        BurstPeeler one = field("u a1;u;u a1");
        for (int way = 0; way < 2; way++) {
            due("nobody", field(CHAIN).fewest(way, 0), 0);
            due("all but one", ten.fewest(way, 0), 9);
            due("the lower nine", ten.fewest(way, 1), 511);
            due("all", bare.fewest(way, 0), 10);
            due("all", bare.fewest(way, 1), 1023);
            due("one of two, and the one without copies", one.fewest(way, 1), 3);
            due("not those known now", Stories.busy().fewest(way, 1), 4);
        }
        Document.terms("(of several with as few USERS that with the least number as bits).");
        for (int way = 0; way < 2; way++) {
            // 1 and 2 (6) do it, and 0 and 3 (9), and others of greater numbers.
            due("6, not 9", field("s n3;u a1;u a5;u a4;u a7;u a3").fewest(way, 1), 6);
            due("the lowest of the ring", Stories.ring().fewest(way, 1), 1);
        }
        Document.promise(31, "FEWEST, SILENT (way 0), TOLD (1): how many (what 0), who (1, bits).");
        for (int way = 0; way < 2; way++) {
            int w = way;
            Unchanged.asked(BUSY, "fewest(" + w + ", 0)", x -> x.fewest(w, 0), 1);
            Unchanged.asked(BUSY, "fewest(" + w + ", 1)", x -> x.fewest(w, 1), 4);
            Unchanged.asked(() -> field(CHAIN), "nobody", x -> x.fewest(w, 1), 0);
        }
        Document.promise(31, "NONE: no FIELD,");
        Unchanged.asked(EMPTY, "fewest(0, 0)", x -> x.fewest(0, 0), NONE);
        Unchanged.asked(EMPTY, "fewest(1, 1)", x -> x.fewest(1, 1), NONE);
        Document.promise(31, "no such ones.");
        Unchanged.outside(BUSY, "fewest, way", 0, 1, (x, way) -> x.fewest(way, 0), NONE);
        Unchanged.outside(BUSY, "fewest, what", 0, 1, (x, what) -> x.fewest(0, what), NONE);
        Unchanged.outside(BUSY, "fewest, what", 0, 1, (x, what) -> x.fewest(1, what), NONE);
    }

    private static void blame() {
        Document.terms("BLAME of an UNKNOWN USER: other UNKNOWN ones, by the being TOLD of each of which alone it would be"
            + " known, SOLVED.");
        due("each of the others in the ring", Stories.ring().blame(1), 5);
        due("none alone", field("u a1;u a1;u a1").blame(0), 0);
        due("none alone", field("u a1;u a1;u a1").blame(2), 0);
        due("one of the others", field("u a4;u a4;u a2;u a2").blame(3), 4);
        due("not itself", field("u a1;u a1").blame(0), 2);
        due("without copies nobody helps", field("u;u a1").blame(0), 0);
        due("known anyway: all others that are unknown", field(CHAIN).blame(0), 6);
        BurstPeeler told = field("u a1;u a1;u a1");
        told.tell(2);
        due("not one that is known", told.blame(0), 2);
        BurstPeeler anyway = field(CHAIN);
        anyway.tell(2);
        due("known anyway: not one that is known", anyway.blame(0), 2);
        Document.promise(38, "BLAME (bits).");
        Unchanged.asked(BUSY, "blame(2)", x -> x.blame(2), 16);
        Unchanged.asked(BUSY, "blame(4)", x -> x.blame(4), 4);
        Document.promise(38, "NONE: no such USER,");
        Unchanged.outside(BUSY, "blame", 0, 4, BurstPeeler::blame, NONE);
        Unchanged.asked(EMPTY, "blame(0)", x -> x.blame(0), NONE);
        Document.promise(38, "it is known.");
        for (int user : new int[] {0, 1, 3}) {
            Unchanged.asked(BUSY, "blame(" + user + ")", x -> x.blame(user), NONE);
        }
    }

    private static void tight() {
        Document.terms("TIGHT: the greatest CAPTURE of 1 .. 99 by which all would be known, SOLVED.");
        due("99, just so", field("s z10;u p99a1").tight(), 99);
        due("99, though more would do", field("s z1;u p99a1").tight(), 99);
        due("98", field("s z10;u p98a1").tight(), 98);
        due("2", field("s z10;u p2a1").tight(), 2);
        due("1", field("s z10;u p1a1").tight(), 1);
        due("by 0 alone", field("s z11;u p1a1").tight(), NONE);
        due("the weakest counts", field("s z10;u p99a1;u p40a2").tight(), 40);
        Document.promise(32, "TIGHT.");
        Unchanged.asked(BUSY, "tight", BurstPeeler::tight, 40);
        Unchanged.asked(RING, "tight", BurstPeeler::tight, 10);
        Unchanged.asked(() -> known("u;u"), "all are known", BurstPeeler::tight, 99);
        Document.promise(32, "NONE: none,");
        Unchanged.asked(() -> field("u a1;u"), "none", BurstPeeler::tight, NONE);
        Unchanged.asked(() -> field("s z11;u p1a1"), "none", BurstPeeler::tight, NONE);
        Document.promise(32, "no FIELD.");
        Unchanged.asked(EMPTY, "tight", BurstPeeler::tight, NONE);
    }

    /** All USERS of a FIELD are TOLD. */
    private static BurstPeeler known(String text) {
        BurstPeeler x = field(text);
        for (int user = 0; user < x.count(0); user++) {
            x.tell(user);
        }
        return x;
    }

    private static void touchAndParts() {
        Document.terms("TOUCH: two USERS, both UNKNOWN, by the SLOTS in which both have COPIES;");
        BurstPeeler all = field("s n12f2;u a4095b4095;u a4095b4095;u t1a4095;u a1;u");
        due("24", all.touch(0, 1), 24);
        due("12", all.touch(0, 2), 12);
        due("1", all.touch(3, 1), 1);
        due("none", all.touch(2, 3), 0);
        due("none", all.touch(4, 0), 0);
        Document.promise(33, "TOUCH: in how many SLOTS.");
        Unchanged.asked(BUSY, "touch(2, 4)", x -> x.touch(2, 4), 1);
        Unchanged.asked(() -> field("u;u"), "touch(0, 1)", x -> x.touch(0, 1), 0);
        Document.promise(33, "NONE: no such ones,");
        Unchanged.outside(BUSY, "touch, first", 0, 4, (x, user) -> x.touch(user, 2), NONE);
        Unchanged.outside(BUSY, "touch, second", 0, 4, (x, user) -> x.touch(2, user), NONE);
        Unchanged.asked(EMPTY, "touch(0, 1)", x -> x.touch(0, 1), NONE);
        Document.promise(33, "one is known,");
        for (int user : new int[] {0, 1, 3}) {
            Unchanged.asked(BUSY, "touch(2, " + user + ")", x -> x.touch(2, user), NONE);
            Unchanged.asked(BUSY, "touch(" + user + ", 2)", x -> x.touch(user, 2), NONE);
        }
        Document.promise(33, "both are one.");
        Unchanged.asked(BUSY, "touch(2, 2)", x -> x.touch(2, 2), NONE);
        Document.terms("PARTS: into how many sets the UNKNOWN fall that hang together so.");
        due("ten without copies", field("u;u;u;u;u;u;u;u;u;u").most(8), 10);
        due("a row", field(ROW).most(8), 1);
        due("a row from its end", field("sn12;ua512;ua768;ua384;ua192;ua96;ua48;ua24;ua12;ua6;ua3").most(8), 1);
        due("by the first slot alone", field("u a1;u a1").most(8), 1);
        due("by the last slot alone", field("s n12f4;u t3a2048;u t3a2048;u t3").most(8), 2);
        BurstPeeler cut = field(ROW);
        cut.tell(4);
        due("a row that is cut", cut.most(8), 2);
        due("none is unknown", known("u;u").most(8), 0);
    }

    private static void frame() {
        Document.promise(34, "Of a FRAME: 0 USERS of it, 1 of them known, 2 COPIES in its SLOTS, 3 its SLOTS in which an"
            + " UNKNOWN one has a CLEAR COPY, 4 USERS of it that would be UNKNOWN still, SOLVED.");
        BurstPeeler x = field("s n3f4;u a1b1;u t1a6;u t1a6b4;u t3a7;u t3;u t1");
        x.tell(1);
        int[][] want = {{1, 0, 1, 1, 0}, {3, 1, 5, 3, 1}, {0, 0, 1, 1, 0}, {2, 0, 3, 3, 1}};
        for (int frame = 0; frame < 4; frame++) {
            for (int what = 0; what < 5; what++) {
                due("frame(" + frame + ", " + what + ")", x.frame(frame, what), want[frame][what]);
            }
        }
        Unchanged.asked(BUSY, "frame(0, 4)", y -> y.frame(0, 4), 2);
        Unchanged.asked(BUSY, "frame(1, 1)", y -> y.frame(1, 1), 1);
        Document.promise(34, "NONE: no such ones.");
        Unchanged.outside(BUSY, "frame, frame", 0, 1, (y, frame) -> y.frame(frame, 0), NONE);
        Unchanged.outside(BUSY, "frame, what", 0, 4, (y, what) -> y.frame(0, what), NONE);
        Unchanged.asked(EMPTY, "frame(0, 0)", y -> y.frame(0, 0), NONE);
        Unchanged.asked(EMPTY, "frame(0, 3)", y -> y.frame(0, 3), NONE);
    }

    private static void stuckIs(String what, BurstPeeler x, int least, int who, int number, int greatest) {
        int[] want = {least, who, number, greatest};
        for (int i = 0; i < 4; i++) {
            due(what + ", stuck(" + i + ")", x.stuck(i), want[i]);
        }
    }

    private static void stuck() {
        Document.terms("A STUCK set: USERS, one at least, UNKNOWN all, none of which would have a CLEAR COPY, were all others"
            + " known.");
        stuckIs("one without copies is a set", field("u"), 1, 1, 1, 1);
        stuckIs("no set of none", field("u a1"), 0, 0, 0, 0);
        stuckIs("all sets of ten without copies", field("u;u;u;u;u;u;u;u;u;u"), 1, 1, 1023, 1023);
        stuckIs("two or more in one slot", field("u a1;u a1;u a1"), 2, 3, 4, 7);
        stuckIs("those known are in none", Stories.busy(), 2, 20, 1, 20);
        stuckIs("below the noise", field("s c10z10;u p9a1;u p10a2"), 1, 1, 1, 1);
        Document.promise(35, "STUCK sets: how many USERS the least has (0; of several that with the least number as bits),"
            + " who these are (1, bits),");
        // 0 and 3 (9), 1 and 2 (6): of as few USERS the lesser number, not the lower first USER.
        stuckIs("6, not 9", field("u a1;u a2;u a2;u a1"), 2, 6, 3, 15);
        stuckIs("two of greater numbers ahead of three", field("s n5;u a3;u a6;u a5;u a8;u a8"), 2, 24, 3, 31);
        Document.promise(35, "how many STUCK sets there are (2), who is in the greatest (3, bits);");
        stuckIs("the ring", Stories.ring(), 3, 7, 1, 7);
        stuckIs("not those that come to be known", field("s n5;u a8;u a3;u a6;u a5"), 3, 14, 1, 14);
        Unchanged.asked(BUSY, "stuck(2)", x -> x.stuck(2), 1);
        Unchanged.asked(BUSY, "stuck(3)", x -> x.stuck(3), 20);
        Document.promise(35, "0 each, if there is none.");
        for (int what = 0; what < 4; what++) {
            int w = what;
            Unchanged.asked(() -> field(CHAIN), "stuck(" + w + ")", x -> x.stuck(w), 0);
            Unchanged.asked(() -> known("u;u"), "all known, stuck(" + w + ")", x -> x.stuck(w), 0);
        }
        Document.promise(35, "NONE: no FIELD,");
        Unchanged.asked(EMPTY, "stuck(0)", x -> x.stuck(0), NONE);
        Unchanged.asked(EMPTY, "stuck(3)", x -> x.stuck(3), NONE);
        Document.promise(35, "no such what.");
        Unchanged.outside(BUSY, "stuck", 0, 3, BurstPeeler::stuck, NONE);
    }

    private static void slid() {
        Document.terms("SLID by w (1 .. FRAMES):");
        for (int frames = 1; frames <= 4; frames++) {
            BurstPeeler x = field("s n2f" + frames + ";u a1");
            for (int w = -1; w <= 6; w++) {
                due("slid(" + w + ") of " + frames, x.slid(w), w >= 1 && w <= frames ? 1 : NONE);
            }
        }
        Document.terms("a window of w FRAMES stands on the first ones, then is moved on by one FRAME at a time to the last"
            + " ones;");
        BurstPeeler each = field("s n2f4;u a1;u t1a1;u t2a1;u t3a1");
        for (int w = 1; w <= 4; w++) {
            due("all", each.slid(w), 15);
            for (int user = 0; user < 4; user++) {
                due("place of " + user + " by " + w, each.slidAt(user, w), Math.max(0, user - w + 1));
            }
        }
        Document.terms("in each place, again and again, STEPS on that look at SLOTS in the window alone, till none can be:");
        // From the last SLOT of the window back to its first, STEP by STEP.
        BurstPeeler backward = field("s n6;u a3;u a6;u a12;u a24;u a16");
        due("again and again", backward.slid(1), 31);
        // 1 is CLEAR in FRAME 1 alone: too late for 0, which is in FRAME 0 alone.
        BurstPeeler late = field("s n2f3;u a1;u a1b1;u t2a1");
        due("in the window alone", late.slid(1), 6);
        due("a wider one", late.slid(2), 7);
        due("the widest", late.slid(3), 7);
        BurstPeeler largest = field("s n12f4;u a1;u a1;u t3a2048;u t2a1b1");
        for (int w = 1; w <= 4; w++) {
            due("all slots there are", largest.slid(w), 12);
            due("never", largest.slidAt(1, w), NONE);
            due("by the last slot", largest.slidAt(2, w), 4 - w);
        }
        Document.terms("who is known then, in which place (0 on) each came to be.");
        due("0 never", late.slidAt(0, 1), NONE);
        due("1 in place 1", late.slidAt(1, 1), 1);
        due("2 in place 2", late.slidAt(2, 1), 2);
        due("by two: 0", late.slidAt(0, 2), 0);
        due("by two: 2", late.slidAt(2, 2), 1);
        Document.promise(36, "SLID: who is known then (bits).");
        Unchanged.asked(BUSY, "slid(1)", x -> x.slid(1), 11);
        Unchanged.asked(BUSY, "slid(2)", x -> x.slid(2), 11);
        Document.promise(36, "NONE: no FIELD,");
        Unchanged.asked(EMPTY, "slid(1)", x -> x.slid(1), NONE);
        Unchanged.asked(EMPTY, "slid(0)", x -> x.slid(0), NONE);
        Document.promise(36, "out of bounds.");
        Unchanged.outside(BUSY, "slid", 1, 2, BurstPeeler::slid, NONE);
        Document.promise(37, "SLID: in which place a USER came to be known (-2: it is known now).");
        Unchanged.asked(BUSY, "slidAt(0, 1)", x -> x.slidAt(0, 1), -2);
        Unchanged.asked(BUSY, "slidAt(3, 2)", x -> x.slidAt(3, 2), -2);
        Unchanged.asked(() -> field("s f4;u t3a1"), "slidAt(0, 1)", x -> x.slidAt(0, 1), 3);
        Document.promise(37, "NONE: never,");
        Unchanged.asked(BUSY, "slidAt(2, 1)", x -> x.slidAt(2, 1), NONE);
        Document.promise(37, "no such USER,");
        Unchanged.outside(BUSY, "slidAt, user", 0, 4, (x, user) -> x.slidAt(user, 1), NONE);
        Unchanged.asked(EMPTY, "slidAt(0, 1)", x -> x.slidAt(0, 1), NONE);
        Document.promise(37, "out of bounds.");
        Unchanged.outside(BUSY, "slidAt, w", 1, 2, (x, w) -> x.slidAt(4, w), NONE);
        Unchanged.outside(BUSY, "slidAt of one known, w", 1, 2, (x, w) -> x.slidAt(0, w), NONE);
    }

    private static void senders() {
        Document.promise(39, "How many USERS have k COPIES (0 .. 24).");
        BurstPeeler x = field("s n12f2;u a4095b4095;u a4095b2047;u;u;u t1a4095;u a1;u b1;u a4095b4095");
        int[] want = new int[25];
        want[0] = 2;
        want[1] = 2;
        want[12] = 1;
        want[23] = 1;
        want[24] = 2;
        for (int k = 0; k <= 24; k++) {
            due("senders(" + k + ")", x.senders(k), want[k]);
        }
        Unchanged.asked(BUSY, "senders(0)", y -> y.senders(0), 0);
        Unchanged.asked(BUSY, "senders(2), known or not", y -> y.senders(2), 3);
        Unchanged.asked(BUSY, "senders(24)", y -> y.senders(24), 0);
        Document.promise(39, "NONE: no FIELD,");
        Unchanged.asked(EMPTY, "senders(0)", y -> y.senders(0), NONE);
        Document.promise(39, "out of bounds.");
        Unchanged.outside(BUSY, "senders", 0, 24, BurstPeeler::senders, NONE);
    }

    private static void lessAndKey() {
        Document.terms("LESS: the USER, UNKNOWN, without whose COPIES most others would be known, SOLVED.");
        // 0 and 1 hold one another, 2, 3 and 4 are a ring.
        String pairAndRing = "s n5;u a1;u a1;u a6;u a12;u a10";
        due("one of the ring", field(pairAndRing).less(0), 2);
        due("two others", field(pairAndRing).less(1), 2);
        BurstPeeler told = field(pairAndRing);
        told.tell(2);
        due("not one that is known", told.less(0), 0);
        due("with those known now", told.less(1), 4);
        Document.terms("KEY: the USER, UNKNOWN, by whose being TOLD most would be (itself, too).");
        due("one of the ring", field(pairAndRing).key(0), 2);
        due("itself, too", field(pairAndRing).key(1), 3);
        due("not one that is known", told.key(0), 0);
        due("with those known now", told.key(1), 5);
        Document.promise(40, "LESS: the USER (0; NONE: none is UNKNOWN),");
        Unchanged.asked(BUSY, "less(0)", x -> x.less(0), 2);
        Unchanged.asked(() -> known("u;u"), "none is unknown", x -> x.less(0), NONE);
        Unchanged.asked(() -> field("u;u;u"), "nobody helps: the lowest", x -> x.less(0), 0);
        Document.promise(40, "how many others are known then (1; 0 for none).");
        Unchanged.asked(BUSY, "less(1)", x -> x.less(1), 4);
        Unchanged.asked(() -> known("u;u"), "none is unknown", x -> x.less(1), 0);
        Unchanged.asked(() -> field("u;u;u"), "no others", x -> x.less(1), 0);
        Document.promise(40, "HIDDEN: no FIELD,");
        Unchanged.asked(EMPTY, "less(0)", x -> x.less(0), HIDDEN);
        Unchanged.asked(EMPTY, "less(1)", x -> x.less(1), HIDDEN);
        Document.promise(40, "no such what.");
        Unchanged.outside(BUSY, "less", 0, 1, BurstPeeler::less, HIDDEN);
        Document.promise(41, "KEY: likewise.");
        Unchanged.asked(BUSY, "key(0)", x -> x.key(0), 2);
        Unchanged.asked(BUSY, "key(1)", x -> x.key(1), 5);
        Unchanged.asked(() -> known("u;u"), "none is unknown", x -> x.key(0), NONE);
        Unchanged.asked(() -> known("u;u"), "none is unknown", x -> x.key(1), 0);
        Unchanged.asked(() -> field("u;u;u"), "itself alone", x -> x.key(1), 1);
        Document.promise(41, "HIDDEN: no FIELD,");
        Unchanged.asked(EMPTY, "key(0)", x -> x.key(0), HIDDEN);
        Unchanged.asked(EMPTY, "key(1)", x -> x.key(1), HIDDEN);
        Document.promise(41, "no such what.");
        Unchanged.outside(BUSY, "key", 0, 1, BurstPeeler::key, HIDDEN);
    }

    private static void more() {
        Document.terms("MORE for a USER: the SLOT of its FRAME, or of the next one, in which it has no COPY, by one more in"
            + " which most would be known, SOLVED.");
        BurstPeeler last = field("s n2f4;u t3a1;u t3a1;u t2a1b3;u t2a1b3");
        due("its last frame alone", last.more(0, 0), 7);
        due("the one behind the first frame", field("s n2f2;u a3;u a3").more(0, 0), 2);
        due("by it both", field("s n2f2;u a3;u a3").more(0, 1), 2);
        due("nothing helps", field("s n2f2;u a3;u a3;u t1a1;u t1a3;u t1a2;u t1a3").more(0, 1), 0);
        due("one that is known: the lowest free one", Stories.busy().more(0, 0), 1);
        // One more in SLOT 1 would hold 2; one more in SLOT 2 helps nobody, but holds nobody either.
        String held = "s n3;u a1;u a1;u a2;u a4;u a4";
        due("where nobody is held", field(held).more(0, 0), 2);
        due("one is known then", field(held).more(0, 1), 1);
        Document.terms("(Of several the lowest, all.)");
        due("less", Stories.ring().less(0), 0);
        due("key", Stories.ring().key(0), 0);
        due("more", field("s n6;u a1;u a1").more(1, 0), 1);
        due("more, none helps", Stories.ring().more(0, 0), 2);
        due("less, some not", field("s n4;u a8;u a1;u a1").less(0), 1);
        Document.promise(42, "MORE: the SLOT (0; NONE: it has COPIES in all),");
        Unchanged.asked(BUSY, "more(2, 0)", x -> x.more(2, 0), 0);
        Unchanged.asked(() -> field("s n2f2;u a3b3;u t1a3"), "in all of two frames", x -> x.more(0, 0), NONE);
        Unchanged.asked(() -> field("s n2f2;u a3b3;u t1a3"), "in all of the last", x -> x.more(1, 0), NONE);
        Unchanged.asked(() -> field("s n2f2;u a3b1;u t1a1"), "but one", x -> x.more(0, 0), 3);
        Document.promise(42, "how many are known then (1; 0 for none).");
        Unchanged.asked(BUSY, "more(2, 1)", x -> x.more(2, 1), 5);
        Unchanged.asked(() -> field("s n2f2;u a3b3;u t1a3"), "none", x -> x.more(1, 1), 0);
        Unchanged.asked(RING, "nobody", x -> x.more(0, 1), 0);
        Document.promise(42, "HIDDEN: no such USER,");
        Unchanged.outside(BUSY, "more, user", 0, 4, (x, user) -> x.more(user, 0), HIDDEN);
        Unchanged.asked(EMPTY, "more(0, 0)", x -> x.more(0, 0), HIDDEN);
        Document.promise(42, "no such what.");
        Unchanged.outside(BUSY, "more, what", 0, 1, (x, what) -> x.more(2, what), HIDDEN);
    }

    /** Of all parts those whose JAMMED SLOTS (bits, from the FRAME's first one on) are good, slot by slot, cut. */
    private static long parts(int slots, int chance, IntPredicate good) {
        long sum = 0;
        for (int jammed = 0; jammed < 1 << slots; jammed++) {
            long part = ALL_PARTS;
            for (int slot = 0; slot < slots; slot++) {
                long lost = part * chance / 100;
                part = (jammed >> slot & 1) != 0 ? lost : part - lost;
            }
            sum += good.test(jammed) ? part : 0;
        }
        return sum;
    }

    private static void jam() {
        Document.terms("JAM: of 10 to the 9 parts, SLOTS of a FRAME rising, each by a chance (0 .. 100) is JAMMED, by itself"
            + " (of each part chance 100ths, cut):");
        for (int chance : new int[] {0, 1, 7, 33, 50, 99, 100}) {
            for (int slot : new int[] {0, 5, 11}) {
                BurstPeeler x = field("s n12;u a" + (1 << slot));
                due("slot " + slot + " free, chance " + chance, x.jam(0, 0, chance),
                    parts(12, chance, jammed -> (jammed >> slot & 1) == 0));
            }
            due("not all jammed, chance " + chance, field("s n12;u a4095").jam(0, 0, chance),
                parts(12, chance, jammed -> jammed != 4095));
            due("two slots, chance " + chance, field("s n2;u a3").jam(0, 0, chance), parts(2, chance, jammed -> jammed != 3));
        }
        due("where it is cut matters", parts(12, 7, j -> (j & 1) == 0) != parts(12, 7, j -> (j >> 11 & 1) == 0) ? 1 : 0, 1);
        due("all parts", parts(12, 33, jammed -> true), ALL_PARTS);
        Document.terms("by how many a USER is known, SOLVED, if no COPY in a JAMMED SLOT is ever CLEAR.");
        BurstPeeler chain = field("s n6;u a3;u a6;u a12;u a48");
        due("1 by 0 or by 2", chain.jam(1, 0, 41), parts(6, 41,
            j -> (j & 3) == 0 || (j & 12) == 0));
        due("0 by its own slot, or behind 2 and 1", chain.jam(0, 0, 41), parts(6, 41,
            j -> (j & 1) == 0 || (j & 14) == 0));
        due("3 by either", chain.jam(3, 0, 41), parts(6, 41, j -> (j & 48) != 48));
        BurstPeeler second = field("s n3f2;u b5;u t1a1;u a1");
        due("slots of the second frame", second.jam(1, 1, 29), parts(3, 29, j -> (j & 5) == 0));
        due("another frame is free", second.jam(0, 0, 100), ALL_PARTS);
        BurstPeeler edges = field("s n3f4;u t1a4;u t2a1;u t2a4;u t3a1");
        int[] alone = {100, 0, 0, 100};
        for (int user = 0; user < 4; user++) {
            due("the slot ahead of the frame, its first, its last, the one behind", edges.jam(user, 2, 100),
                alone[user] * (ALL_PARTS / 100));
        }
        Document.promise(43, "JAM.");
        Unchanged.asked(BUSY, "known now, all jammed", x -> x.jam(0, 0, 100), ALL_PARTS);
        Unchanged.asked(BUSY, "never", x -> x.jam(2, 0, 0), 0);
        Unchanged.asked(() -> field(CHAIN), "chance 0", x -> x.jam(1, 0, 0), ALL_PARTS);
        Unchanged.asked(() -> field(CHAIN), "chance 100", x -> x.jam(1, 0, 100), 0);
        Unchanged.asked(() -> field(CHAIN), "chance 1", x -> x.jam(1, 0, 1), parts(4, 1,
            j -> (j & 3) == 0 || (j & 12) == 0));
        Document.promise(43, "NONE: no such USER, FRAME,");
        Unchanged.outside(BUSY, "jam, user", 0, 4, (x, user) -> x.jam(user, 0, 1), NONE);
        Unchanged.outside(BUSY, "jam, frame", 0, 1, (x, frame) -> x.jam(0, frame, 1), NONE);
        Unchanged.asked(EMPTY, "jam(0, 0, 0)", x -> x.jam(0, 0, 0), NONE);
        Document.promise(43, "out of bounds.");
        Unchanged.outside(BUSY, "jam, chance", 0, 100, (x, chance) -> x.jam(0, 0, chance), NONE);
    }

    // ---- DEGREES

    /** SHARE as the document tells it; weights[k] is that of k. */
    private static double shareBy(int slots, int m, int l, int... weights) {
        double all = 0;
        double sum = 0;
        for (int k = 1; k < weights.length; k++) {
            all += weights[k];
            sum += k * weights[k];
        }
        double mean = sum / all;
        double reach = mean / slots > 1 ? 1 : mean / slots;
        double share = 1;
        for (int i = 0; i < l; i++) {
            double product = 1;
            for (int j = 0; j < m - 1; j++) {
                product = product * (1 - reach * share);
            }
            double hold = 1 - product;
            double next = 0;
            for (int k = 1; k < weights.length; k++) {
                double number = k * weights[k];
                for (int j = 0; j < k - 1 && weights[k] > 0; j++) {
                    number = number * hold;
                }
                next = next + number;
            }
            share = next / sum;
        }
        return share;
    }

    private static long bits(double value) {
        return Double.doubleToLongBits(value);
    }

    private static void share() {
        int[] mixed = {0, 3, 50, 0, 7, 0, 2};
        String degrees = ";d k2q50;d k6q2;d k4q7;d k1q3";
        Document.terms("SHARE for m USERS (1 .. 60) behind l rounds (0 .. 40), in double precision:");
        for (int slots = 2; slots <= 12; slots++) {
            BurstPeeler x = field("u;s n" + slots + degrees);
            for (int m : new int[] {1, 2, 3, 59, 60}) {
                for (int l : new int[] {0, 1, 2, 39, 40}) {
                    due("share(" + m + ", " + l + ") of n" + slots, x.share(m, l), bits(shareBy(slots, m, l, mixed)));
                }
            }
        }
        Document.terms("MEAN: the sum of k times WEIGHT by all WEIGHTS; REACH: MEAN by SLOTS of a FRAME,");
        due("reach of a half", field("s n4;u;d k2").share(2, 1), bits(0.5));
        due("slots of a frame, not all", field("s n4f4;u;d k2").share(2, 1), bits(0.5));
        due("mean of 3 and 1", field("s n4;u;d k3;d k1").share(2, 1), bits((1 + 3 * 0.5 * 0.5) / 4));
        Document.terms("1 at most.");
        due("just 1", field("s n6;u;d k6").share(2, 3), bits(1.0));
        due("more than 1", field("s n5;u;d k6").share(2, 3), bits(1.0));
        due("more than 1 among three", field("s n5;u;d k6").share(3, 7), bits(1.0));
        due("less than 1", field("s n7;u;d k6").share(2, 1), bits(shareBy(7, 2, 1, 0, 0, 0, 0, 0, 0, 1)));
        Document.terms("SHARE is 1 at first;");
        due("behind none", field("s n7;u;d k6").share(60, 0), bits(1.0));
        due("behind none, one user", field("s n7;u;d k6").share(1, 0), bits(1.0));
        Document.terms("then, l times: 1 less REACH times SHARE, m less 1 times multiplied to 1: 1 less that is the HOLD;");
        due("one user holds nobody", field("s n7;u;d k2").share(1, 1), 0);
        due("one user, one copy", field("s n7;u;d").share(1, 40), bits(1.0));
        due("three", field("s n4;u;d k2").share(3, 1), bits(0.75));
        Document.terms("SHARE is: for k rising (1 .. 6, those with a WEIGHT) the number k times WEIGHT, k less 1 times"
            + " multiplied by HOLD, added up from 0 on, by the sum of k times WEIGHT.");
        for (int l = 1; l <= 40; l++) {
            due("behind " + l, field("u;s n9" + degrees).share(5, l), bits(shareBy(9, 5, l, mixed)));
        }
        Document.promise(44, "SHARE, as the bits of a number in double precision.");
        Unchanged.asked(BUSY, "share(1, 0)", x -> x.share(1, 0), bits(1.0));
        Unchanged.asked(BUSY, "share(60, 40)", x -> x.share(60, 40), bits(shareBy(3, 60, 40, 0, 0, 3, 0, 0, 0, 1)));
        Document.promise(44, "NONE: no DEGREES,");
        Unchanged.asked(RING, "share(1, 1)", x -> x.share(1, 1), NONE);
        Unchanged.asked(EMPTY, "share(1, 1)", x -> x.share(1, 1), NONE);
        Document.promise(44, "out of bounds.");
        Unchanged.outside(BUSY, "share, m", 1, 60, (x, m) -> x.share(m, 1), NONE);
        Unchanged.outside(BUSY, "share, l", 0, 40, (x, l) -> x.share(1, l), NONE);
    }

    private static int limitBy(int slots, int... weights) {
        int found = NONE;
        for (int m = 1; m <= 60; m++) {
            found = shareBy(slots, m, 40, weights) < 0.001 ? m : found;
        }
        return found;
    }

    private static void limit() {
        Document.terms("LIMIT: the greatest m by which SHARE behind 40 is below 0.001.");
        for (int k = 2; k <= 6; k++) {
            int[] weights = new int[7];
            weights[k] = 1;
            for (int slots = 2; slots <= 12; slots++) {
                due("limit of k" + k + " n" + slots, field("u;d k" + k + ";s n" + slots).limit(), limitBy(slots, weights));
            }
        }
        // With one USER the SHARE is that of single COPIES: 1 of 1000 is not below 0.001, 1 of 1001 is.
        due("just 0.001", field("s n12;u;d q1;d k6q99;d k5q81").limit(), NONE);
        due("one user's share then", field("s n12;u;d q1;d k6q99;d k5q81").share(1, 40), bits(0.001));
        due("below it", field("s n12;u;d q1;d k6q99;d k5q80;d k3q2").limit(), limitBy(12, 0, 1, 0, 2, 0, 80, 99));
        due("below it, one at least", field("s n12;u;d q1;d k6q99;d k5q80;d k3q2").limit() >= 1 ? 1 : 0, 1);
        due("reached by the 40th round, not by the 39th", field("s n9;u;d k2;d k4q13").limit(), 7);
        due("missed by one round", field("s n10;u;d k2q9;d k3q8").limit(), 7);
        Document.promise(45, "LIMIT.");
        Unchanged.asked(BUSY, "limit", BurstPeeler::limit, 1);
        Unchanged.asked(() -> field("s n12;u;d k2"), "limit", BurstPeeler::limit, 6);
        Document.promise(45, "NONE: none,");
        Unchanged.asked(() -> field("u;d"), "single copies", BurstPeeler::limit, NONE);
        Document.promise(45, "no DEGREES.");
        Unchanged.asked(RING, "limit", BurstPeeler::limit, NONE);
        Unchanged.asked(EMPTY, "limit", BurstPeeler::limit, NONE);
    }

    private static void sample() {
        Document.terms("SAMPLE by a seed: how many COPIES a DRAW would tell first.");
        BurstPeeler x = field("s n2;u;d k6;d k1q2;d k4q3");
        for (int lot = 0; lot < 6; lot++) {
            due("the number " + lot, x.sample(Lots.seedFor(6, lot)), lot < 2 ? 1 : lot < 5 ? 4 : 6);
        }
        long six = Lots.seedFor(6, 5);
        due("six, though there are two slots", x.sample(six), 6);
        due("the draw has two", x.draw(0, six), 2);
        Document.promise(46, "SAMPLE.");
        for (long seed : new long[] {0, -1, Long.MAX_VALUE, Long.MIN_VALUE}) {
            Unchanged.asked(BUSY, "sample(" + seed + ")", y -> y.sample(seed), new Lots(seed).nextDegree(0, 0, 3, 0, 0, 0, 1));
        }
        Document.promise(46, "NONE: no DEGREES.");
        Unchanged.asked(RING, "sample(1)", y -> y.sample(1), NONE);
        Unchanged.asked(EMPTY, "sample(1)", y -> y.sample(1), NONE);
    }

    private static void load() {
        Document.terms("LOAD of c (0 .. 999): c times USERS by all SLOTS, cut.");
        due("0", field("s n2;u").load(0), 0);
        due("1, cut to 0", field("s n2;u").load(1), 0);
        due("3, cut to 1", field("s n2;u").load(3), 1);
        due("999, of ten in two", field("sn2;u;u;u;u;u;u;u;u;u;u").load(999), 4995);
        due("999, of one in 48", field("s n12f4;u").load(999), 20);
        due("47 of one in 48", field("s n12f4;u").load(47), 0);
        due("48 of one in 48", field("s n12f4;u").load(48), 1);
        Document.promise(47, "LOAD.");
        Unchanged.asked(BUSY, "load(100)", x -> x.load(100), 83);
        Unchanged.asked(BUSY, "load(999)", x -> x.load(999), 832);
        Unchanged.asked(BUSY, "load(0)", x -> x.load(0), 0);
        Document.promise(47, "NONE: no FIELD,");
        Unchanged.asked(EMPTY, "load(0)", x -> x.load(0), NONE);
        Document.promise(47, "out of bounds.");
        Unchanged.outside(BUSY, "load", 0, 999, BurstPeeler::load, NONE);
    }

    // ---- sums

    private static void most() {
        Document.promise(51, "Known USERS (0, bits),");
        Unchanged.asked(BUSY, "most(0)", x -> x.most(0), 11);
        due("all ten", known("u;u;u;u;u;u;u;u;u;u").most(0), 1023);
        Document.promise(51, "the SLOT with most COPIES (1), the USER with most COPIES (2), the strongest one (3)");
        BurstPeeler x = field("s n12f4;u p98a3;u p99g2;u p99t3a2048;u t3a2049;u t2a1b2048");
        due("the last slot", x.most(1), 47);
        due("the first of two with two copies", x.most(2), 0);
        due("by strength, not by power", x.most(3), 2);
        Document.promise(51, "(of several the lowest, all),");
        due("slots alike", field("s n3;u a6;u a6").most(1), 1);
        due("slots without copies", field("u").most(1), 0);
        due("users alike", field("u;u a1;u a2").most(2), 1);
        due("users without copies", field("u;u").most(2), 0);
        due("strengths alike", field("u p40g2;u p10;u p90g3").most(3), 0);
        due("strengths alike", field("u p9;u p10;u p90g3").most(3), 1);
        due("one that is known counts too", Stories.busy().most(3) * 10 + Stories.busy().most(2), 0);
        Document.promise(51, "SLOTS without a COPY (4, how many), with just one (5), COPIES of all (6),");
        Unchanged.asked(BUSY, "most(4)", y -> y.most(4), 1);
        Unchanged.asked(BUSY, "most(5), known or not", y -> y.most(5), 2);
        Unchanged.asked(BUSY, "most(6)", y -> y.most(6), 8);
        due("all 48 without", field("s n12f4;u").most(4), 48);
        due("none without", field("s n12;u a4095").most(4), 0);
        due("all with one", field("s n12;u a4095").most(5), 12);
        due("copies of ten in all of 24", field("sn12f2;ua4095b4095;ua4095b4095;ua4095b4095").most(6), 72);
        due("no copies", field("u;u").most(6), 0);
        Document.promise(51, "what lies on all SHELVES (7, how many), PARTS (8).");
        Unchanged.asked(BUSY, "most(7)", y -> y.most(7), 3);
        Unchanged.asked(Stories::full, "most(7)", y -> y.most(7), 30);
        Unchanged.asked(RING, "most(7)", y -> y.most(7), 0);
        Unchanged.asked(BUSY, "most(8)", y -> y.most(8), 1);
        Document.promise(51, "HIDDEN: no FIELD,");
        for (int what = 0; what < 9; what++) {
            int w = what;
            Unchanged.asked(EMPTY, "most(" + w + ")", y -> y.most(w), HIDDEN);
        }
        Document.promise(51, "no such what.");
        Unchanged.outside(BUSY, "most", 0, 8, BurstPeeler::most, HIDDEN);
    }

    private static void count() {
        Document.promise(54, "0 USERS, 1 SCRIPTS, 2 bytes of the TAPE, 3 how long the LOG is, 4 ACTS that can be UNDONE.");
        int[] want = {5, 2, 4, 8, 8};
        int[] none = {0, 1, 4, 0, 0};
        for (int what = 0; what < 5; what++) {
            int w = what;
            Unchanged.asked(BUSY, "count(" + w + ")", x -> x.count(w), want[w]);
            Unchanged.asked(EMPTY, "no field, count(" + w + ")", x -> x.count(w), none[w]);
        }
        Document.promise(54, "HIDDEN for others.");
        Unchanged.outside(BUSY, "count", 0, 4, BurstPeeler::count, HIDDEN);
        Unchanged.outside(EMPTY, "count", 0, 4, BurstPeeler::count, HIDDEN);
    }
}
