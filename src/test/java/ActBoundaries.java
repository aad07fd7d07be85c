import java.util.function.Supplier;

/** Boundary cases of all that is done: Terms 2 and 4, promises 15 to 28, 49, 50, 52 and 53. */
final class ActBoundaries {
    private static final int NONE = BurstPeeler.NONE;
    private static final int HIDDEN = BurstPeeler.HIDDEN;
    private static final int NOT_THERE = 0;
    private static final int OUT_OF_BOUNDS = 1;
    private static final int NOTHING_TO_DO = 2;
    private static final int WRONG_SHELF = 3;
    private static final Supplier<BurstPeeler> EMPTY = Stories::empty;
    private static final Supplier<BurstPeeler> BUSY = Stories::busy;
    private static final Supplier<BurstPeeler> FULL = Stories::full;
    private static final Supplier<BurstPeeler> RING = Stories::ring;

    private ActBoundaries() {
    }

    static void all() {
        stepsAndRounds();
        drawing();
        byHand();
        shelves();
        fortyActs();
        sixtyEntries();
        sortsOfTheLog();
        statusCounts();
        peelAndRound();
        tellAndForget();
        turn();
        capture();
        draw();
        swap();
        file();
        shelf();
        years();
        status();
        undo();
        log();
        runAndPerform();
        imageAndBack();
        refusedAgainAndAgain();
    }

    private static void due(String call, long got, long want) {
        Check.due(call, got, want);
    }

    /** So many ACTS in a FIELD of seven USERS: the k-th (from 0 on) turns a COPY of USER k modulo 7. */
    private static BurstPeeler turns(int n) {
        BurstPeeler x = Check.withField("s n12;u;u;u;u;u;u;u");
        goOn(x, 0, n);
        return x;
    }

    private static void goOn(BurstPeeler x, int from, int to) {
        for (int k = from; k < to; k++) {
            x.turn(k % 7, k / 7 % 12);
        }
    }

    /** The COPIES of all USERS behind so many of these ACTS, as one number. */
    private static long copiesBehind(int n) {
        long[] copies = new long[7];
        for (int k = 0; k < n; k++) {
            copies[k % 7] ^= 1L << (k / 7 % 12);
        }
        return asOne(copies[0], copies[3], copies[6], copies[n % 7]);
    }

    private static long copiesNow(BurstPeeler x, int n) {
        return asOne(x.copies(0), x.copies(3), x.copies(6), x.copies(n % 7));
    }

    private static long asOne(long a, long b, long c, long d) {
        return ((a * 4096 + b) * 4096 + c) * 4096 + d;
    }

    // ---- Terms 2: STEPS, ROUNDS, DRAWS

    private static void stepsAndRounds() {
        Document.terms("To STEP on: of the first SLOT with a CLEAR COPY the first USER with such a one is known then:");
        BurstPeeler x = Check.withField("s n3c10;u a4;u p1a2;u a2;u a2;u a1;u a1");
        due("slot 0, the lower of two that are clear", x.peel(), 4);
        due("slot 0 still", x.peel(), 5);
        due("slot 1 has none, slot 2 has one", x.peel(), 0);
        due("then nobody is clear", x.peel(), NONE);
        BurstPeeler last = Check.withField("s n12f4;u t3 a2048");
        due("the last slot", last.peel(), 0);
        Document.terms("as a SINGLE, if it is the only UNKNOWN one there, else CAPTURED.");
        due("one of two", x.user(4, 4), 2);
        due("alone there, the other is known", x.user(5, 4), 1);
        due("alone there", x.user(0, 4), 1);
        BurstPeeler elsewhere = Check.withField("s n2c10;u p90 a3;u a1");
        elsewhere.peel();
        due("the slot of the step counts, not another one", elsewhere.user(0, 4), 2);
        Document.terms("A ROUND: all that have a CLEAR COPY as it is now are known then,");
        BurstPeeler chain = Check.withField("s n4;u a3;u a6;u a12");
        due("both ends, not what comes to be clear by them", chain.round(), 2);
        due("who", chain.most(0), 5);
        BurstPeeler both = Check.withField("s n2c10;u a1;u a1");
        due("both at once, though one would free the other", both.round(), 2);
        due("each among others", both.user(0, 4) * 10 + both.user(1, 4), 22);
        due("the last slot of all", Check.withField("s n12f4;u t3a2048;u a1;u t3a1;u t3a1").round(), 2);
        Document.terms("each as it would be by its first SLOT in which it is CLEAR.");
        BurstPeeler ways = Check.withField("s n3c10;u p20a7;u p90a1;u p5a2");
        // USER 0 is not CLEAR in SLOT 0, CAPTURED in SLOT 1, a SINGLE in SLOT 2.
        due("two", ways.round(), 2);
        due("by slot 1", ways.user(0, 4), 2);
        due("by slot 0", ways.user(1, 4), 2);
        due("not the weak one", ways.user(2, 4), 0);
        BurstPeeler single = Check.withField("s n3c10;u p20a5;u p5a4");
        single.round();
        due("a single in slot 0, captured in slot 2", single.user(0, 4), 1);
    }

    private static void drawing() {
        Document.terms("To DRAW a USER anew, by a seed: x, at first the seed, becomes x times 6364136223846793005"
            + " and 1442695040888963407 (64 bits, going round);");
        long[] seeds = {0, 1, -1, 2, Long.MAX_VALUE, Long.MIN_VALUE, 1L << 32, -1L << 32, 1L << 62, 987654321987654321L};
        int[] weights = {0, 17, 13, 11, 7, 5, 3};
        String degrees = ";d k1q17;d k2q13;d k3q11;d k4q7;d k5q5;d k6q3";
        for (long seed : seeds) {
            BurstPeeler x = Check.withField("s n12f4;u t2a1" + degrees);
            due("sample of " + seed, x.sample(seed), new Lots(seed).nextDegree(weights));
            x.draw(0, seed);
            due("draw by " + seed, x.copies(0), Lots.copies(seed, 24, 24, weights));
        }
        Document.terms("a draw of j: (x shifted right by 33, without sign) modulo j.");
        BurstPeeler many = Check.withField("u" + degrees);
        for (long seed = -60; seed < 60; seed++) {
            due("sample of " + seed, many.sample(seed), new Lots(seed).nextDegree(weights));
        }
        Document.terms("A draw of all WEIGHTS: the DEGREES, k rising, each as many numbers as its WEIGHT:"
            + " the one that has that number tells how many COPIES.");
        BurstPeeler three = Check.withField("d k5q2;u;d k1q1;d k3q3;d k3q1");
        int[] told = {1, 3, 3, 3, 3, 5, 5};
        for (int lot = 0; lot < 7; lot++) {
            due("the number " + lot, three.sample(Lots.seedFor(7, lot)), told[lot]);
        }
        due("one degree alone", Check.withField("u;d k4").sample(77), 4);
        Document.terms("They go into SLOTS of its FRAME and of the next one (if there is one),");
        for (int frame = 0; frame < 4; frame++) {
            BurstPeeler x = Check.withField("s n3f4;d k6;u t" + frame);
            int room = frame < 3 ? 6 : 3;
            due("all of them", x.draw(0, 5), room);
            due("its own", x.copies(0), ((1L << room) - 1) << 3 * frame);
        }
        Document.terms("as many as there are at most:");
        for (int slots = 2; slots <= 7; slots++) {
            BurstPeeler x = Check.withField("d k6;u;s n" + slots);
            due("of " + slots + " slots", x.draw(0, 9), Math.min(slots, 6));
        }
        due("of two in each of two frames", Check.withField("d k5;u;s n2f2").draw(0, 1), 4);
        Document.terms("for each a draw of those that have none of its yet: that one, rising, has one.");
        for (long seed = 0; seed < 40; seed++) {
            BurstPeeler x = Check.withField("s n4f2;d k5;u");
            x.draw(0, seed);
            due("copies by " + seed, x.copies(0), Lots.copies(seed, 0, 8, 0, 0, 0, 0, 0, 1));
        }
        Document.terms("(Its COPIES so far are gone ahead.)");
        BurstPeeler gone = Check.withField("s n12f2;d;u a4095b4095;u a1");
        due("one copy instead of 24", gone.draw(0, 3), 1);
        due("that one", gone.copies(0), Lots.copies(3, 0, 24, 0, 1));
        due("the same again", gone.draw(0, 3), 1);
        due("an act, though nothing is new", gone.count(4), 2);
        due("the other one's stay", gone.copies(1), 1);
    }

    private static void byHand() {
        Document.terms("By hand: STEP, ROUND, TELL a USER,");
        BurstPeeler x = Check.withField("s n4;u a3;u a6;u a12;d k2");
        x.peel();
        x.tell(1);
        x.round();
        due("three acts", x.count(4), 3);
        due("how each is known", x.user(0, 4) * 100 + x.user(1, 4) * 10 + x.user(2, 4), 131);
        Document.terms("FORGET it (UNKNOWN again),");
        due("forgotten", x.forget(1), 3);
        due("unknown again", x.user(1, 4), 0);
        due("it can come to be known again", x.peel(), 1);
        Document.terms("TURN a COPY (it comes, or goes),");
        due("it comes", x.turn(0, 3), 3);
        due("there", x.copies(0), 11);
        due("it goes", x.turn(0, 3), 2);
        due("gone", x.copies(0), 3);
        due("the last but one", x.turn(0, 0), 1);
        due("the last one", x.turn(0, 1), 0);
        Document.terms("CAPTURE is set, DRAW, FILE,");
        due("capture", x.capture(7), 0);
        due("draw", x.draw(0, 4), 2);
        due("file", x.file(0, 0), 0);
        Document.terms("SWAP (two USERS of one FRAME have each other's COPIES then).");
        long first = x.copies(0);
        due("swap", x.swap(0, 2), 2);
        due("the second has them", x.copies(2), first);
        due("the first has the other's", x.copies(0), 12);
        due("known as they were", x.most(0), 7);
        due("all are acts", x.count(4), 13);
    }

    private static void shelves() {
        Document.terms("There are three SHELVES of ten places: 0 for SINGLES, 1 for those CAPTURED, 2 for those TOLD;");
        BurstPeeler full = Stories.full();
        int[] who = {1, 0, 3};
        for (int shelf = 0; shelf < 3; shelf++) {
            for (int place = 0; place < 10; place++) {
                due("shelf " + shelf + ", place " + place, full.shelf(shelf, place), who[shelf]);
            }
        }
        due("thirty in all", full.most(7), 30);
        Document.terms("to FILE a USER that is known: it is the next on a SHELF");
        BurstPeeler x = Check.withField("u;u;u");
        for (int i = 0; i < 3; i++) {
            x.tell(2 - i);
            due("the next", x.file(2, 2 - i), i);
            due("who", x.shelf(2, i), 2 - i);
        }
        Document.terms("(once more, too;");
        due("once more", x.file(2, 1), 3);
        due("who", x.shelf(2, 3), 1);
        Document.terms("it stays there, whatever comes).");
        x.forget(1);
        x.turn(1, 0);
        x.peel();
        due("known as a single now", x.user(1, 4), 1);
        x.swap(1, 2);
        x.capture(9);
        due("place 1", x.shelf(2, 1), 1);
        due("place 3", x.shelf(2, 3), 1);
        due("four", x.most(7), 4);
    }

    // ---- Terms 2: ACTS undone, the LOG, STATUS

    private static void fortyActs() {
        Document.terms("All these are ACTS: the latest 40 can be UNDONE one by one");
        for (int n : new int[] {0, 1, 39, 40, 41, 79, 80, 81, 120, 121}) {
            BurstPeeler x = turns(n);
            int can = Math.min(n, 40);
            due("acts that can be undone of " + n, x.count(4), can);
            for (int left = can - 1; left >= 0; left--) {
                due("undo", x.undo(), left);
                int behind = n - can + left;
                due("copies behind " + behind + " of " + n, copiesNow(x, behind), copiesBehind(behind));
            }
            due("no more", x.undo(), NONE);
        }
        BurstPeeler x = turns(50);
        for (int i = 0; i < 25; i++) {
            x.undo();
        }
        goOn(x, 25, 60);
        due("behind 25 undone and 35 done", x.count(4), 40);
        for (int left = 39; left >= 0; left--) {
            due("undo", x.undo(), left);
            due("copies", copiesNow(x, 20 + left), copiesBehind(20 + left));
        }
        due("no more", x.undo(), NONE);
        Document.terms("(the LOG, too).");
        for (int n : new int[] {1, 40, 60, 61, 99, 100, 101, 140, 141, 200}) {
            for (int undone : new int[] {1, Math.min(n, 39), Math.min(n, 40)}) {
                BurstPeeler y = turns(n);
                for (int i = 0; i < undone; i++) {
                    y.undo();
                }
                logIsOfTurns(y, n - undone);
            }
        }
        BurstPeeler again = turns(100);
        for (int i = 0; i < 40; i++) {
            again.undo();
        }
        goOn(again, 60, 75);
        logIsOfTurns(again, 75);
    }

    /** The LOG as it is behind n turns, entry by entry. */
    private static void logIsOfTurns(BurstPeeler x, int n) {
        int length = Math.min(n, 60);
        due("length of the log behind " + n, x.count(3), length);
        for (int i = 0; i < length; i++) {
            due("entry " + i + " behind " + n, x.log(i, 1), (n - 1 - i) % 7);
        }
        due("no more behind " + n, x.log(length, 1), HIDDEN);
    }

    private static void sixtyEntries() {
        Document.terms("how many are known then: the latest 60.");
        for (int n : new int[] {0, 1, 59, 60, 61, 99, 100, 101, 119, 120, 121, 161, 201, 301}) {
            logIsOfTurns(turns(n), n);
        }
        BurstPeeler x = Check.withField("u a1;u a1;u a1");
        x.tell(1);
        x.tell(2);
        x.peel();
        x.forget(0);
        int[] known = {2, 3, 2, 1};
        for (int i = 0; i < 4; i++) {
            due("known then, entry " + i, x.log(i, 2), known[i]);
        }
    }

    private static void sortsOfTheLog() {
        Document.terms("The LOG: of each ACT its sort (0 STEP, 1 ROUND, 2 TELL, 3 FORGET, 4 TURN, 5 CAPTURE, 6 DRAW,"
            + " 7 FILE, 8 SWAP),");
        BurstPeeler x = Check.withField("s n4;u a1;u a1;u a2;u a4;u;d k2");
        x.peel();
        x.round();
        x.tell(1);
        x.forget(1);
        x.turn(4, 3);
        x.capture(5);
        x.draw(3, 8);
        x.file(0, 2);
        x.swap(4, 0);
        for (int sort = 0; sort <= 8; sort++) {
            due("sort", x.log(8 - sort, 0), sort);
        }
        Document.terms("the USER (SWAP: the first; ROUND, CAPTURE: NONE),");
        int[] users = {2, NONE, 1, 1, 4, NONE, 3, 2, 4};
        for (int sort = 0; sort <= 8; sort++) {
            due("user of sort " + sort, x.log(8 - sort, 1), users[sort]);
        }
    }

    private static void statusIs(BurstPeeler x, int zero, int one, int two, int three) {
        due("status(0)", x.status(0), zero);
        due("status(1)", x.status(1), one);
        due("status(2)", x.status(2), two);
        due("status(3)", x.status(3), three);
    }

    private static void statusCounts() {
        Document.terms("STATUS: how many ACTS were refused as there was no such one, no FIELD (0),");
        BurstPeeler none = new BurstPeeler();
        none.peel();
        none.round();
        none.tell(0);
        none.forget(0);
        none.turn(0, 0);
        none.capture(0);
        none.draw(0, 0);
        none.file(0, 0);
        none.swap(0, 0);
        statusIs(none, 9, 0, 0, 0);
        Document.terms("out of bounds (1),");
        BurstPeeler x = Stories.frames();
        x.capture(100);
        x.turn(0, 6);
        x.swap(0, 1);
        statusIs(x, 0, 3, 0, 0);
        Document.terms("it is so, there is nothing to be done (2),");
        x.peel();
        x.round();
        x.forget(0);
        x.capture(0);
        x.draw(0, 1);
        x.file(0, 0);
        x.swap(0, 4);
        statusIs(x, 0, 3, 7, 0);
        Document.terms("it is known in another way than the SHELF is for, the SHELF is full (3);");
        x.tell(0);
        x.file(0, 0);
        x.file(1, 0);
        statusIs(x, 0, 3, 7, 2);
        for (int i = 0; i < 11; i++) {
            x.file(2, 0);
        }
        statusIs(x, 0, 3, 7, 3);
        Document.terms("of several the first;");
        BurstPeeler y = Stories.full();
        y.capture(Integer.MAX_VALUE);
        statusIs(y, 1, 1, 1, 0);
        // No such USER and a SLOT that is not there, or of another FRAME; a USER that is there in a SLOT that is not.
        y.turn(5, 99);
        y.turn(5, 0);
        y.turn(3, 6);
        statusIs(y, 4, 1, 1, 0);
        // No such USER ahead of both being one; another FRAME ahead of the same COPIES.
        y.swap(5, 5);
        statusIs(y, 5, 1, 1, 0);
        BurstPeeler same = Check.withField("s n3f2;u b1;u t1a1");
        same.swap(0, 1);
        statusIs(same, 0, 1, 0, 0);
        // No such SHELF ahead of an UNKNOWN USER; UNKNOWN ahead of a full SHELF.
        y.file(3, 2);
        y.file(0, 2);
        statusIs(y, 6, 1, 2, 0);
        Document.terms("not UNDONE.");
        y.tell(2);
        y.undo();
        y.undo();
        y.back();
        y.text(0);
        statusIs(y, 6, 1, 2, 0);
    }

    // ---- promises 15 to 23

    private static void peelAndRound() {
        Document.promise(15, "STEP: who is known then.");
        BurstPeeler x = Check.withField("u;u;u;u;u;u;u;u;u;u a1");
        due("the tenth", x.peel(), 9);
        due("the first", Check.withField("u a1").peel(), 0);
        Document.promise(15, "NONE: no FIELD (STATUS 0),");
        Unchanged.refused(EMPTY, "peel", BurstPeeler::peel, NOT_THERE);
        Unchanged.refused(BurstPeeler::new, "peel", BurstPeeler::peel, NOT_THERE);
        Document.promise(15, "none is CLEAR (2).");
        Unchanged.refused(BUSY, "peel", BurstPeeler::peel, NOTHING_TO_DO);
        Unchanged.refused(RING, "peel", BurstPeeler::peel, NOTHING_TO_DO);
        Unchanged.refused(() -> Check.withField("u"), "peel without copies", BurstPeeler::peel, NOTHING_TO_DO);
        Unchanged.refused(ActBoundaries::allKnown, "peel, all known", BurstPeeler::peel, NOTHING_TO_DO);
        Document.promise(16, "ROUND: how many.");
        due("ten", Check.withField("sn12;ua1;ua2;ua4;ua8;ua16;ua32;ua64;ua128;ua256;ua512").round(), 10);
        BurstPeeler two = Check.withField("s n4;u a1;u a2;u a4;u a4");
        two.tell(0);
        due("those that come to be known alone", two.round(), 1);
        Document.promise(16, "NONE: no FIELD (STATUS 0),");
        Unchanged.refused(EMPTY, "round", BurstPeeler::round, NOT_THERE);
        Document.promise(16, "none is CLEAR (2).");
        Unchanged.refused(BUSY, "round", BurstPeeler::round, NOTHING_TO_DO);
        Unchanged.refused(RING, "round", BurstPeeler::round, NOTHING_TO_DO);
        Unchanged.refused(ActBoundaries::allKnown, "round, all known", BurstPeeler::round, NOTHING_TO_DO);
    }

    private static BurstPeeler allKnown() {
        BurstPeeler x = Stories.busy();
        x.tell(2);
        x.tell(4);
        return x;
    }

    private static void tellAndForget() {
        Document.promise(17, "TELL: how many are known then.");
        BurstPeeler x = Check.withField("u;u;u;u;u;u;u;u;u;u");
        for (int i = 0; i < 10; i++) {
            due("tell", x.tell(9 - i), i + 1);
        }
        Document.promise(17, "NONE: no such USER (STATUS 0),");
        Unchanged.refused(EMPTY, "tell(0)", y -> y.tell(0), NOT_THERE);
        Unchanged.refusedOutside(BUSY, "tell", 0, 4, BurstPeeler::tell, NOT_THERE);
        Document.promise(17, "it is known (2).");
        Unchanged.refused(BUSY, "tell of one captured", y -> y.tell(0), NOTHING_TO_DO);
        Unchanged.refused(BUSY, "tell of a single", y -> y.tell(1), NOTHING_TO_DO);
        Unchanged.refused(BUSY, "tell of one told", y -> y.tell(3), NOTHING_TO_DO);
        Document.promise(18, "FORGET: how it was known.");
        BurstPeeler z = Stories.busy();
        due("captured", z.forget(0), 2);
        due("a single", z.forget(1), 1);
        due("told", z.forget(3), 3);
        due("nobody is known", z.most(0), 0);
        Document.promise(18, "NONE: no such USER (STATUS 0),");
        Unchanged.refused(EMPTY, "forget(0)", y -> y.forget(0), NOT_THERE);
        Unchanged.refusedOutside(BUSY, "forget", 0, 4, BurstPeeler::forget, NOT_THERE);
        Document.promise(18, "it is UNKNOWN (2).");
        Unchanged.refused(BUSY, "forget(2)", y -> y.forget(2), NOTHING_TO_DO);
        Unchanged.refused(BUSY, "forget(4)", y -> y.forget(4), NOTHING_TO_DO);
    }

    private static void turn() {
        Document.promise(19, "TURN: how many COPIES it has then.");
        BurstPeeler x = Check.withField("s n12f2;u");
        for (int s = 0; s < 24; s++) {
            due("it comes", x.turn(0, s), s + 1);
        }
        for (int s = 0; s < 24; s++) {
            due("it goes", x.turn(0, s), 23 - s);
        }
        Document.promise(19, "NONE: no such USER, SLOT (STATUS 0),");
        Unchanged.refused(EMPTY, "turn(0, 0)", y -> y.turn(0, 0), NOT_THERE);
        Unchanged.refusedOutside(BUSY, "turn, user", 0, 4, (y, user) -> y.turn(user, 0), NOT_THERE);
        Unchanged.refusedOutside(BUSY, "turn, slot", 0, 5, (y, slot) -> y.turn(0, slot), NOT_THERE);
        Unchanged.refused(BUSY, "turn(3, 64)", y -> y.turn(3, 64), NOT_THERE);
        Document.promise(19, "it is not of its FRAME nor of the next one (1).");
        for (int user = 0; user < 4; user++) {
            int low = 3 * user;
            int high = Math.min(low + 6, 12);
            int u = user;
            for (int slot = 0; slot < 12; slot++) {
                BurstPeeler y = Stories.frames();
                boolean isIn = slot >= low && slot < high;
                due("turn(" + user + ", " + slot + ")", y.turn(user, slot), isIn ? 1 : NONE);
                statusIs(y, 0, isIn ? 0 : 1, 0, 0);
            }
            if (low > 0) {
                Unchanged.refused(Stories::frames, "turn one ahead", y -> y.turn(u, low - 1), OUT_OF_BOUNDS);
            }
            if (high < 12) {
                Unchanged.refused(Stories::frames, "turn one behind", y -> y.turn(u, high), OUT_OF_BOUNDS);
            }
        }
        Unchanged.refused(BUSY, "turn(3, 2)", y -> y.turn(3, 2), OUT_OF_BOUNDS);
    }

    private static void capture() {
        Document.promise(20, "CAPTURE is set: what it was.");
        BurstPeeler x = Check.withField("s c1;u");
        due("0", x.capture(0), 1);
        due("99", x.capture(99), 0);
        due("98", x.capture(98), 99);
        due("as now", x.rule(2), 98);
        Document.promise(20, "NONE: no FIELD (STATUS 0),");
        Unchanged.refused(EMPTY, "capture(5)", y -> y.capture(5), NOT_THERE);
        Unchanged.refused(EMPTY, "capture(100)", y -> y.capture(100), NOT_THERE);
        Unchanged.refused(EMPTY, "capture(0)", y -> y.capture(0), NOT_THERE);
        Document.promise(20, "not 0 .. 99 (1),");
        Unchanged.refusedOutside(BUSY, "capture", 0, 99, BurstPeeler::capture, OUT_OF_BOUNDS);
        Document.promise(20, "it is so (2).");
        Unchanged.refused(BUSY, "capture(99)", y -> y.capture(99), NOTHING_TO_DO);
        Unchanged.refused(RING, "capture(0)", y -> y.capture(0), NOTHING_TO_DO);
    }

    private static void draw() {
        Document.promise(21, "DRAW: how many COPIES it has then.");
        for (int k = 1; k <= 6; k++) {
            due("k" + k, Check.withField("u;d k" + k).draw(0, 11), k);
        }
        Document.promise(21, "NONE: no such USER (STATUS 0),");
        Unchanged.refused(EMPTY, "draw(0, 1)", y -> y.draw(0, 1), NOT_THERE);
        Unchanged.refusedOutside(BUSY, "draw", 0, 4, (y, user) -> y.draw(user, 1), NOT_THERE);
        Unchanged.refused(RING, "draw(3, 1), no degrees either", y -> y.draw(3, 1), NOT_THERE);
        Document.promise(21, "there are no DEGREES (2).");
        Unchanged.refused(RING, "draw(0, 1)", y -> y.draw(0, 1), NOTHING_TO_DO);
        Unchanged.refused(RING, "draw(2, -1)", y -> y.draw(2, -1), NOTHING_TO_DO);
    }

    /** 1 and 3 have the same COPIES in one FRAME, 4 and 5 the same from two FRAMES, 2 and 5 the same in one. */
    private static BurstPeeler pairs() {
        return Check.withField("s n3f2;u a1b1;u a6;u t1a1;u a6;u b1;u t1a1");
    }

    private static void swap() {
        Supplier<BurstPeeler> story = ActBoundaries::pairs;
        Document.promise(22, "SWAP: how many COPIES the first one has then.");
        BurstPeeler x = Check.withField("s n4;u a15;u;u a1");
        due("none", x.swap(0, 1), 0);
        due("four", x.swap(0, 1), 4);
        due("one", x.swap(0, 2), 1);
        due("the other has the four", x.copies(2), 15);
        Document.promise(22, "NONE: no such USERS (STATUS 0),");
        Unchanged.refused(EMPTY, "swap(0, 1)", y -> y.swap(0, 1), NOT_THERE);
        Unchanged.refusedOutside(story, "swap, first", 0, 5, (y, user) -> y.swap(user, 0), NOT_THERE);
        Unchanged.refusedOutside(story, "swap, second", 0, 5, (y, user) -> y.swap(0, user), NOT_THERE);
        Unchanged.refusedOutside(story, "swap, both", 0, 5, (y, user) -> y.swap(user, user), NOT_THERE);
        Document.promise(22, "not of one FRAME (1),");
        Unchanged.refused(story, "swap(0, 2)", y -> y.swap(0, 2), OUT_OF_BOUNDS);
        Unchanged.refused(story, "swap(2, 0)", y -> y.swap(2, 0), OUT_OF_BOUNDS);
        Unchanged.refused(story, "swap(4, 5), the same copies", y -> y.swap(4, 5), OUT_OF_BOUNDS);
        Document.promise(22, "both are one,");
        Unchanged.refused(story, "swap(0, 0)", y -> y.swap(0, 0), NOTHING_TO_DO);
        Unchanged.refused(BUSY, "swap(3, 3)", y -> y.swap(3, 3), NOTHING_TO_DO);
        Document.promise(22, "they have the same COPIES (2).");
        Unchanged.refused(story, "swap(1, 3)", y -> y.swap(1, 3), NOTHING_TO_DO);
        Unchanged.refused(story, "swap(5, 2)", y -> y.swap(5, 2), NOTHING_TO_DO);
        Unchanged.refused(BUSY, "swap(2, 4)", y -> y.swap(2, 4), NOTHING_TO_DO);
    }

    private static void file() {
        Document.promise(23, "FILE: its place on the SHELF (0 on).");
        BurstPeeler x = Check.withField("u;u a1");
        x.tell(0);
        x.peel();
        for (int place = 0; place < 10; place++) {
            due("place", x.file(2, 0), place);
        }
        due("another shelf from 0 on", x.file(0, 1), 0);
        Document.promise(23, "NONE: no such SHELF, USER (STATUS 0),");
        Unchanged.refused(EMPTY, "file(0, 0)", y -> y.file(0, 0), NOT_THERE);
        Unchanged.refusedOutside(BUSY, "file, shelf", 0, 2, (y, shelf) -> y.file(shelf, 3), NOT_THERE);
        Unchanged.refusedOutside(BUSY, "file, user", 0, 4, (y, user) -> y.file(2, user), NOT_THERE);
        Unchanged.refused(BUSY, "file(3, 2), unknown", y -> y.file(3, 2), NOT_THERE);
        Unchanged.refused(FULL, "file(2, 5), a full shelf", y -> y.file(2, 5), NOT_THERE);
        Document.promise(23, "it is UNKNOWN (2),");
        for (int shelf = 0; shelf < 3; shelf++) {
            int s = shelf;
            Unchanged.refused(BUSY, "file(" + s + ", 2)", y -> y.file(s, 2), NOTHING_TO_DO);
            Unchanged.refused(FULL, "file(" + s + ", 4), a full shelf", y -> y.file(s, 4), NOTHING_TO_DO);
        }
        Document.promise(23, "known in another way,");
        int[] shelfOf = {1, 0, NONE, 2};
        for (int shelf = 0; shelf < 3; shelf++) {
            for (int user : new int[] {0, 1, 3}) {
                int s = shelf;
                if (shelfOf[user] != shelf) {
                    Unchanged.refused(BUSY, "file(" + s + ", " + user + ")", y -> y.file(s, user), WRONG_SHELF);
                } else {
                    due("file(" + s + ", " + user + ")", Stories.busy().file(s, user), 1);
                }
            }
        }
        Document.promise(23, "the SHELF is full (3).");
        Unchanged.refused(FULL, "an eleventh single", y -> y.file(0, 1), WRONG_SHELF);
        Unchanged.refused(FULL, "an eleventh captured", y -> y.file(1, 0), WRONG_SHELF);
        Unchanged.refused(FULL, "an eleventh told", y -> y.file(2, 3), WRONG_SHELF);
        Unchanged.refused(FULL, "full and for others", y -> y.file(0, 3), WRONG_SHELF);
        BurstPeeler room = Stories.full();
        room.undo();
        due("the tenth once more", room.file(2, 3), 9);
    }

    private static void shelf() {
        Document.promise(24, "Who lies on a SHELF at a place (0 on).");
        Unchanged.asked(FULL, "shelf(0, 0)", x -> x.shelf(0, 0), 1);
        Unchanged.asked(FULL, "shelf(2, 9)", x -> x.shelf(2, 9), 3);
        Document.promise(24, "NONE: nobody,");
        for (int shelf = 0; shelf < 3; shelf++) {
            int s = shelf;
            Unchanged.asked(BUSY, "shelf(" + s + ", 1)", x -> x.shelf(s, 1), NONE);
            Unchanged.asked(BUSY, "shelf(" + s + ", 9)", x -> x.shelf(s, 9), NONE);
            Unchanged.asked(RING, "shelf(" + s + ", 0)", x -> x.shelf(s, 0), NONE);
        }
        Document.promise(24, "no such ones.");
        Unchanged.outside(FULL, "shelf, shelf", 0, 2, (x, shelf) -> x.shelf(shelf, 0), NONE);
        for (int shelf = 0; shelf < 3; shelf++) {
            int s = shelf;
            Unchanged.outside(FULL, "shelf " + s + ", place", 0, 9, (x, place) -> x.shelf(s, place), NONE);
        }
        Unchanged.asked(EMPTY, "no field", x -> x.shelf(0, 0), NONE);
    }

    // ---- Terms 4, promises 25 to 28

    /** One year whose draw of 8 is the lot, by the least seed that is good, on FRAMES. */
    private static BurstPeeler oneYear(String field, int lot, long from) {
        BurstPeeler x = Check.withField(field);
        x.years(1, seedFrom(lot, from));
        return x;
    }

    private static long seedFrom(int lot, long from) {
        long seed = from;
        while (new Lots(seed).next(8) != lot) {
            seed++;
        }
        return seed;
    }

    private static void years() {
        Document.terms("YEARS by a seed: n (1 .. 40) times: a draw (as told above) of 8:");
        BurstPeeler most = Check.withField("s n4;u;u;u");
        due("forty", most.years(40, 6) >= 0 ? 1 : 0, 1);
        BurstPeeler single = Check.withField("s n4;u;u;u");
        // One year by each of the draws that came out of the forty: the same ACTS as with one long run.
        Lots lots = new Lots(6);
        for (int i = 0; i < 40; i++) {
            liveByHand(single, lots, 4);
        }
        due("as many acts", most.count(4), single.count(4));
        due("the same copies", most.copies(0) * 256 + most.copies(1) * 16 + most.copies(2),
            single.copies(0) * 256 + single.copies(1) * 16 + single.copies(2));
        due("the same known", most.most(0), single.most(0));
        Document.terms("0, 1: a STEP; 2: a ROUND;");
        String both = "s n3;u a1;u a2;u a4";
        due("0", oneYear(both, 0, 0).most(0), 1);
        due("1", oneYear(both, 1, 0).most(0), 1);
        due("1 is a step", oneYear(both, 1, 0).log(0, 0), 0);
        due("2", oneYear(both, 2, 0).most(0), 7);
        due("2 is a round", oneYear(both, 2, 0).log(0, 0), 1);
        Document.terms("3: a draw of USERS: TOLD; 4: a draw of USERS: FORGOTTEN;");
        for (long from = 0; from < 300; from += 10) {
            long three = seedFrom(3, from);
            int user = second(three, 5);
            BurstPeeler told = oneYear("u;u;u;u;u", 3, from);
            due("told", told.most(0), 1 << user);
            due("as told", told.user(user, 4), 3);
            BurstPeeler x = Check.withField("u;u;u;u;u");
            for (int i = 0; i < 5; i++) {
                x.tell(i);
            }
            long four = seedFrom(4, from);
            due("four are left", x.years(1, four), 4);
            due("forgotten", x.most(0), 31 & ~(1 << second(four, 5)));
        }
        Document.terms("5, 6: a draw of USERS, of SLOTS of its FRAME and of the next one, if there is one:"
            + " that COPY is TURNED;");
        for (int lot = 5; lot <= 6; lot++) {
            for (long from = 0; from < 300; from += 10) {
                BurstPeeler x = oneYear("s n3f3;u;u t1;u t2", lot, from);
                Lots draws = new Lots(seedFrom(lot, from));
                draws.next(8);
                int user = draws.next(3);
                int slot = 3 * user + draws.next(user < 2 ? 6 : 3);
                due("turned", x.copies(user), 1L << slot);
                due("a turn", x.log(0, 0) * 10 + x.log(0, 1), 40 + user);
            }
        }
        Document.terms("7: a draw of 30: CAPTURE is set so.");
        for (long from = 0; from < 600; from += 10) {
            long seed = seedFrom(7, from);
            due("capture", oneYear("s c99;u", 7, from).rule(2), second(seed, 30));
        }
        Document.terms("Each is an ACT;");
        BurstPeeler acts = oneYear(both, 2, 0);
        due("one act", acts.count(4) * 10 + acts.count(3), 11);
        due("undone", acts.undo(), 0);
        due("nobody", acts.most(0), 0);
        Document.terms("what can't be is left (no STATUS).");
        for (int lot : new int[] {0, 1, 2, 4}) {
            Unchanged.asked(RING, "a year of " + lot, x -> x.years(1, seedFrom(lot, 0)), 0);
        }
        Unchanged.asked(ActBoundaries::allKnown, "a year of 3", x -> x.years(1, seedFrom(3, 0)), 5);
        long seven = seedFrom(7, 0);
        Unchanged.asked(() -> Check.withField("u;s c" + second(seven, 30)), "a year of 7", x -> x.years(1, seven), 0);
        Document.promise(25, "YEARS: how many are known then.");
        due("one", oneYear(both, 0, 0).years(1, seedFrom(0, 50)), 2);
        due("three", Check.withField(both).years(1, seedFrom(2, 0)), 3);
        Document.promise(25, "NONE: no FIELD,");
        Unchanged.asked(EMPTY, "years(1, 1)", x -> x.years(1, 1), NONE);
        Unchanged.asked(EMPTY, "years(41, 1)", x -> x.years(41, 1), NONE);
        Document.promise(25, "out of bounds.");
        Unchanged.outside(BUSY, "years", 1, 40, (x, n) -> x.years(n, 1), NONE);
        due("years(1)", Stories.frames().years(1, seedFrom(5, 0)), 0);
        due("years(40)", Stories.frames().years(40, 1) >= 0 ? 1 : 0, 1);
    }

    private static int second(long seed, int sides) {
        Lots lots = new Lots(seed);
        lots.next(8);
        return lots.next(sides);
    }

    private static void liveByHand(BurstPeeler x, Lots lots, int slots) {
        switch (lots.next(8)) {
            case 0: case 1: x.peel(); break;
            case 2: x.round(); break;
            case 3: x.tell(lots.next(x.count(0))); break;
            case 4: x.forget(lots.next(x.count(0))); break;
            case 7: x.capture(lots.next(30)); break;
            default: x.turn(lots.next(x.count(0)), lots.next(slots));
        }
    }

    private static void status() {
        Document.promise(26, "STATUS.");
        Unchanged.asked(BUSY, "status(0)", x -> x.status(0), 1);
        Unchanged.asked(BUSY, "status(3)", x -> x.status(3), 0);
        Document.promise(26, "NONE: no such what.");
        Unchanged.outside(BUSY, "status", 0, 3, BurstPeeler::status, NONE);
        Unchanged.outside(BurstPeeler::new, "status", 0, 3, BurstPeeler::status, NONE);
    }

    private static void undo() {
        Document.promise(27, "The latest ACT is UNDONE: how many still can be.");
        BurstPeeler x = Stories.busy();
        int[][] want = {{0, 7}, {20, 6}, {20, 5}, {20, 4}, {20, 3}, {20, 2}, {20, 1}, {20, 0}};
        int[] known = {11, 11, 11, 11, 11, 3, 1, 0};
        int[] filed = {3, 3, 2, 1, 0, 0, 0, 0};
        want[0][0] = 99;
        for (int i = 0; i < 8; i++) {
            due("undo", x.undo(), want[i][1]);
            due("capture", x.rule(2), want[i][0]);
            due("known", x.most(0), known[i]);
            due("filed", x.most(7), filed[i]);
            due("log", x.count(3), 7 - i);
        }
        due("the copy is back", x.copies(4), 6);
        Document.promise(27, "NONE: none.");
        Unchanged.asked(EMPTY, "undo", BurstPeeler::undo, NONE);
        Unchanged.asked(RING, "undo", BurstPeeler::undo, NONE);
        Unchanged.asked(ActBoundaries::allUndone, "undo, all undone", BurstPeeler::undo, NONE);
        Unchanged.asked(ActBoundaries::behindBack, "undo behind back", BurstPeeler::undo, NONE);
    }

    private static BurstPeeler allUndone() {
        BurstPeeler x = Stories.busy();
        for (int i = 0; i < 8; i++) {
            x.undo();
        }
        return x;
    }

    private static BurstPeeler behindBack() {
        BurstPeeler x = Stories.busy();
        x.back();
        return x;
    }

    /** The LOG of the story busy. */
    private static void logIsBusy(BurstPeeler x) {
        int[][] want = {{4, 4, 3}, {5, NONE, 3}, {7, 3, 3}, {7, 1, 3}, {7, 0, 3}, {2, 3, 3}, {0, 1, 2}, {0, 0, 1}};
        due("log", x.count(3), 8);
        for (int i = 0; i < 8; i++) {
            for (int what = 0; what < 3; what++) {
                due("log(" + i + ", " + what + ")", x.log(i, what), want[i][what]);
            }
        }
    }

    private static void log() {
        Document.promise(28, "LOG, the latest (i 0), the one ahead of it (1) ..: 0 sort, 1 USER, 2 how many are known.");
        logIsBusy(Stories.busy());
        Unchanged.asked(BUSY, "log(7, 2)", y -> y.log(7, 2), 1);
        Document.promise(28, "HIDDEN: no such ones.");
        Unchanged.outside(BUSY, "log, i", 0, 7, (y, i) -> y.log(i, 0), HIDDEN);
        Unchanged.outside(BUSY, "log, what", 0, 2, (y, what) -> y.log(0, what), HIDDEN);
        Unchanged.asked(EMPTY, "no field", y -> y.log(0, 0), HIDDEN);
        Unchanged.asked(RING, "no act", y -> y.log(0, 0), HIDDEN);
        Unchanged.asked(() -> turns(61), "the 61st", y -> y.log(60, 0), HIDDEN);
        Unchanged.asked(() -> turns(61), "the 60th", y -> y.log(59, 0), 4);
    }

    // ---- SCRIPTS that are done

    private static BurstPeeler withScripts(String... texts) {
        BurstPeeler x = Check.withField("s n4;u a3;u a6;u a12;d k2");
        for (String text : texts) {
            Check.script(x, text);
        }
        return x;
    }

    private static void runAndPerform() {
        Supplier<BurstPeeler> story = () -> withScripts("r;p;p", "t9;p", "c5;c5;t1;t2", "c100");
        Document.terms("RUN of a SCRIPT: behind how many STEPS of it the first is that can't be;");
        Unchanged.asked(story, "the third", x -> x.run(0, 0), 2);
        Unchanged.asked(story, "the first: no such user", x -> x.run(1, 0), 0);
        Unchanged.asked(story, "the second: it is so", x -> x.run(2, 0), 1);
        Unchanged.asked(story, "the first: out of bounds", x -> x.run(3, 0), 0);
        for (String text : new String[] {"f0", "c0", "c100", "t3", "f3", "x3"}) {
            due("can't be: " + text, withScripts(text).run(0, 0), 0);
        }
        for (String text : new String[] {"p", "r", "t2", "x2", "c99", "t0;f0", "c1;c0"}) {
            due("can be: " + text, withScripts(text).run(0, 0), NONE);
        }
        due("no degrees", scriptInRing("x0").run(0, 0), 0);
        due("none is clear", scriptInRing("p").run(0, 0) + scriptInRing("r").run(0, 0), 0);
        Document.terms("how many are known behind these.");
        Unchanged.asked(story, "three", x -> x.run(0, 1), 3);
        Unchanged.asked(story, "none", x -> x.run(1, 1), 0);
        Unchanged.asked(story, "ahead of what can't be", x -> x.run(2, 1), 0);
        Unchanged.asked(BUSY, "those known now, too", x -> x.run(1, 1), 3);
        Document.promise(49, "RUN: behind how many (0; NONE: all can be), known (1).");
        Supplier<BurstPeeler> long16 = () -> withScripts("t0;f0;t0;f0;t0;f0;t0;f0;t0;f0;t0;f0;t0;f0;t0;t1");
        Unchanged.asked(long16, "all sixteen", x -> x.run(0, 0), NONE);
        Unchanged.asked(long16, "known behind them", x -> x.run(0, 1), 2);
        Unchanged.asked(() -> withScripts("t0;f0;t0;f0;t0;f0;t0;f0;t0;f0;t0;f0;t0;f0;t0;t0"), "all but the last",
            x -> x.run(0, 0), 15);
        Document.promise(49, "HIDDEN: no such SCRIPT,");
        Unchanged.outside(BUSY, "run, script", 0, 1, (x, script) -> x.run(script, 0), HIDDEN);
        Document.promise(49, "no FIELD,");
        Unchanged.asked(EMPTY, "run(0, 0)", x -> x.run(0, 0), HIDDEN);
        Unchanged.asked(EMPTY, "run(0, 1)", x -> x.run(0, 1), HIDDEN);
        Document.promise(49, "no such what.");
        Unchanged.outside(BUSY, "run, what", 0, 1, (x, what) -> x.run(0, what), HIDDEN);
        Document.terms("DO: its STEPS as ACTS, up to there (no STATUS).");
        BurstPeeler x = story.get();
        due("two", x.perform(0), 2);
        due("acts", x.count(4) * 10 + x.count(3), 22);
        due("a round, a step", x.log(1, 0) * 10 + x.log(0, 0), 10);
        due("one", x.perform(2), 1);
        due("the capture is set", x.rule(2), 5);
        due("what is behind it is not done", x.count(4), 3);
        statusIs(x, 0, 0, 0, 0);
        Unchanged.asked(story, "nothing of it can be", y -> y.perform(1), 0);
        Unchanged.asked(story, "nothing of it can be", y -> y.perform(3), 0);
        Document.promise(50, "DO: how many STEPS were done.");
        due("all sixteen", long16.get().perform(0), 16);
        due("acts of it", actsBehind(long16.get()), 16);
        Document.promise(50, "NONE: no such SCRIPT,");
        Unchanged.outside(BUSY, "perform", 0, 1, BurstPeeler::perform, NONE);
        Document.promise(50, "no FIELD.");
        Unchanged.asked(EMPTY, "perform(0)", y -> y.perform(0), NONE);
    }

    private static BurstPeeler scriptInRing(String text) {
        BurstPeeler x = Stories.ring();
        Check.script(x, text);
        return x;
    }

    private static int actsBehind(BurstPeeler x) {
        x.perform(0);
        return x.count(4);
    }

    // ---- IMAGES

    private static void imageAndBack() {
        Document.terms("An IMAGE keeps who is known how, COPIES, CAPTURE, SHELVES, the LOG; BACK: they are so again");
        BurstPeeler x = Stories.busy();
        x.image();
        x.undo();
        x.undo();
        x.undo();
        x.forget(0);
        x.tell(2);
        x.file(2, 2);
        x.draw(1, 4);
        x.file(0, 1);
        x.years(40, 3);
        x.tell(9);
        due("back", x.back(), 3);
        due("who", x.most(0), 11);
        due("how", x.user(0, 4) * 100 + x.user(1, 4) * 10 + x.user(3, 4), 213);
        long[] copies = {9, 33, 2, 24, 2};
        for (int user = 0; user < 5; user++) {
            due("copies", x.copies(user), copies[user]);
        }
        due("capture", x.rule(2), 99);
        due("shelves", x.most(7), 3);
        due("who lies there", x.shelf(0, 0) * 100 + x.shelf(1, 0) * 10 + x.shelf(2, 0), 103);
        logIsBusy(x);
        due("status goes on", x.status(0), 2);
        for (int n : new int[] {0, 60, 61, 100, 130}) {
            BurstPeeler y = turns(n);
            y.image();
            y.years(40, n);
            y.back();
            logIsOfTurns(y, n);
            goOn(y, n, n + 3);
            y.undo();
            logIsOfTurns(y, n + 2);
        }
        Document.terms("(no ACT can be UNDONE then).");
        BurstPeeler z = Stories.busy();
        due("eight acts", z.count(4), 8);
        z.back();
        due("none can", z.count(4), 0);
        z.tell(2);
        due("the new one can", z.undo(), 0);
        due("no more", z.undo(), NONE);
        Document.promise(52, "An IMAGE (instead of the one ahead): how many are known.");
        Unchanged.asked(ActBoundaries::withImageOfNow, "image", BurstPeeler::image, 3);
        BurstPeeler second = Stories.busy();
        second.tell(2);
        due("four", second.image(), 4);
        second.forget(0);
        due("the second one", second.back(), 4);
        due("once more", second.back(), 4);
        due("acts stay with an image", withImageOfNow().count(4), 8);
        Document.promise(52, "NONE: no FIELD.");
        Unchanged.asked(EMPTY, "image", BurstPeeler::image, NONE);
        Unchanged.asked(BurstPeeler::new, "image", BurstPeeler::image, NONE);
        Document.promise(53, "BACK: how many are known.");
        due("three", Stories.busy().back(), 3);
        due("none", backToNobody(), 0);
        Document.promise(53, "NONE: no IMAGE of this FIELD.");
        Unchanged.asked(EMPTY, "back", BurstPeeler::back, NONE);
        Unchanged.asked(RING, "back", BurstPeeler::back, NONE);
        Unchanged.asked(ActBoundaries::imageOfAnother, "back", BurstPeeler::back, NONE);
    }

    private static BurstPeeler withImageOfNow() {
        BurstPeeler x = Stories.busy();
        x.image();
        return x;
    }

    private static int backToNobody() {
        BurstPeeler x = Stories.ring();
        x.image();
        x.tell(0);
        return x.back();
    }

    /** An IMAGE was made, but then the same TEXT came once more as another FIELD. */
    private static BurstPeeler imageOfAnother() {
        BurstPeeler x = Stories.busy();
        x.image();
        Check.tape(x, Stories.FIELD);
        x.text(0);
        x.tell(3);
        return x;
    }

    private static void refusedAgainAndAgain() {
        Document.terms("What is refused answers as told and changes nothing but STATUS.");
        BurstPeeler x = Stories.busy();
        for (int i = 0; i < 90; i++) {
            x.tell(9);
            x.capture(-1);
            x.forget(4);
            x.file(2, 0);
        }
        statusIs(x, 91, 90, 91, 90);
        due("acts", x.count(4), 8);
        due("log", x.count(3), 8);
        due("known", x.most(0), 11);
        due("shelves", x.most(7), 3);
        Document.terms("The constants: `NONE = -1`: None; refused. `HIDDEN = -1000000`: Not told.");
        due("NONE", NONE, -1);
        due("HIDDEN", HIDDEN, -1000000);
    }
}
