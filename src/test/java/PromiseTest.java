/** Each promise of the document by hand: ordinary inputs, the edges that it names, wrong inputs. */
public final class PromiseTest {
    private static final int NONE = BurstPeeler.NONE;
    private static final int HIDDEN = BurstPeeler.HIDDEN;
    /** Three USERS in a chain: 0 and 2 are CLEAR at once, 1 behind them. */
    private static final String CHAIN = "s n4;u a3;u a6;u a12;d k2";
    /** Three USERS in a ring: nobody is ever CLEAR. */
    private static final String RING = "s n3;u a3;u a6;u a5";
    /** One strong USER above two weak ones. */
    private static final String STRONG = "s n2c10;u p90a1;u a1;u a3";
    /** Three FRAMES, each USER of another one. */
    private static final String FRAMES = "s n2f3;u a1b2;u t1a1b1;u t2a1";

    private PromiseTest() {
    }

    private static void due(String call, long got, long want) {
        Check.due(call, got, want);
    }

    private static void promise1NewObject() {
        BurstPeeler x = new BurstPeeler();
        for (int what = 0; what < 5; what++) {
            due("count of a new object", x.count(what), 0);
            due("rule of a new object", x.rule(what), NONE);
            due("solved", x.solved(what), NONE);
            due("stuck", x.stuck(what), NONE);
            due("frame", x.frame(0, what), NONE);
            due("most", x.most(what), HIDDEN);
            due("less", x.less(what), HIDDEN);
            due("key", x.key(what), HIDDEN);
            due("more", x.more(0, what), HIDDEN);
            due("slot", x.slot(0, what), HIDDEN);
            due("log", x.log(0, what), HIDDEN);
            due("step", x.step(0, 0, what), HIDDEN);
            due("run", x.run(0, what), HIDDEN);
            Check.throwsNoSuchElement(x, 0, what);
        }
        due("copies", x.copies(0), 0);
        due("weight", x.weight(1), NONE);
        due("strength", x.strength(0), NONE);
        due("din", x.din(0, 0), NONE);
        due("margin", x.margin(0, 0), NONE);
        due("clear", x.clear(0, 0), NONE);
        due("ahead", x.ahead(0), NONE);
        due("fewest", x.fewest(0, 0), NONE);
        due("tight", x.tight(), NONE);
        due("touch", x.touch(0, 1), NONE);
        due("slid", x.slid(1), NONE);
        due("slidAt", x.slidAt(0, 1), NONE);
        due("blame", x.blame(0), NONE);
        due("senders", x.senders(0), NONE);
        due("jam", x.jam(0, 0, 0), NONE);
        due("share", x.share(1, 1), NONE);
        due("limit", x.limit(), NONE);
        due("sample", x.sample(1), NONE);
        due("load", x.load(1), NONE);
        due("perform", x.perform(0), NONE);
        due("years", x.years(1, 1), NONE);
        due("undo", x.undo(), NONE);
        due("image", x.image(), NONE);
        due("back", x.back(), NONE);
        due("shelf", x.shelf(0, 0), NONE);
        for (int what = 0; what < 4; what++) {
            due("status of a new object", x.status(what), 0);
        }
    }

    private static void promise2Feed() {
        BurstPeeler x = new BurstPeeler();
        due("feed of nothing", x.feed(0, 0, 0, 0, 0), 0);
        due("feed, zeros left out", x.feed(0x75000000, 0x00700039, 0, 0, 0x00000030), 4);
        due("fault of up90", x.fault(0), NONE);
        due("text of up90", x.text(0), 1);
        due("power of up90", x.user(0, 0), 90);
        for (int i = 1; i <= 12; i++) {
            due("feed of high bytes", x.feed(-1, -1, -1, -1, -1), 20 * i);
        }
        due("feed beyond 240", x.feed(0, 0, 0, 0, 1), NONE);
        due("bytes then", x.count(2), 240);
        due("feed of zeros at 240", x.feed(0, 0, 0, 0, 0), 240);
        x.end(230);
        due("feed of 11 at 230", x.feed(-1, -1, 0x00010101, 0, 0), NONE);
        due("feed of 10 at 230", x.feed(-1, -1, 0x00000101, 0, 0), 240);
        for (int place = 0; place < 5; place++) {
            int[] words = new int[5];
            words[place] = 0x01010101;
            x.end(237);
            due("each number counts", x.feed(words[0], words[1], words[2], words[3], words[4]), NONE);
            x.end(236);
            due("each number counts", x.feed(words[0], words[1], words[2], words[3], words[4]), 240);
        }
    }

    private static void promise3End() {
        BurstPeeler x = new BurstPeeler();
        Check.due("end(0) of nothing", x.end(0), true);
        Check.due("end(1) of nothing", x.end(1), false);
        Check.tape(x, "u a1;zzz");
        Check.due("end(-1)", x.end(-1), false);
        Check.due("end(9)", x.end(9), false);
        due("bytes still", x.count(2), 8);
        Check.due("end(8)", x.end(8), true);
        due("fault of the whole", x.fault(0), 5);
        Check.due("end(4)", x.end(4), true);
        due("bytes then", x.count(2), 4);
        due("fault of its start", x.fault(0), NONE);
    }

    private static void promise4FaultOfFields() {
        String[] good = {"u", " u ", "u p 1", "up0099", "u p1g1t0a1b0", "ug1", "ut3;sf4", "ut2b1;sf4",
            "sc99z99;u", "dk6q99;u", "u;u;u;u;u;u;u;u;u;u", "u;d;d;d;d;d;d", "u;s n 2", "ua4095;sn12", "ua255", "s;u;d",
            "ub255;sf2", "sn12f4c0z0;up1g9t3a0b0"};
        for (String text : good) {
            Check.faultIs(0, text, NONE);
        }
        Check.faultIs(0, "", 0);
        Check.faultIs(0, " ", 1);
        Check.faultIs(0, "s", 1);
        Check.faultIs(0, "s ; d ", 6);
        Check.faultIs(0, ";", 0);
        Check.faultIs(0, "u;", 2);
        Check.faultIs(0, "u; ", 3);
        Check.faultIs(0, "u;;u", 2);
        Check.faultIs(0, "U", 0);
        Check.faultIs(0, "x", 0);
        Check.faultIs(0, "us", 1);
        Check.faultIs(0, "u u", 2);
        Check.faultIs(0, "u\u00e9", 1);
        Check.faultIs(0, "u\t", 1);
        Check.faultIs(0, "u p", 3);
        Check.faultIs(0, "u p ;", 4);
        Check.faultIs(0, "u pg1", 3);
        Check.faultIs(0, "up0", 2);
        Check.faultIs(0, "up00", 3);
        Check.faultIs(0, "up100", 4);
        Check.faultIs(0, "up0100 ", 5);
        Check.faultIs(0, "up00991", 6);
        Check.faultIs(0, "up99999", 6);
        Check.faultIs(0, "up000000", 6);
        Check.faultIs(0, "up1p2", 3);
        Check.faultIs(0, "up1 2", 4);
        Check.faultIs(0, "ug0", 2);
        Check.faultIs(0, "ug10", 3);
        Check.faultIs(0, "ut4", 2);
        Check.faultIs(0, "ut3", 3);
        Check.faultIs(0, "ut1", 3);
        Check.faultIs(0, "ub4096;sf2", 5);
        Check.faultIs(0, "ut3b1;sf4", 9);
        Check.faultIs(0, "ut2b256;sf4", 11);
        Check.faultIs(0, "ua256;sn8", 9);
        Check.faultIs(0, "ua256", 5);
        Check.faultIs(0, "ua4096", 5);
        Check.faultIs(0, "ub1 ", 4);
        Check.faultIs(0, "sn1;u", 2);
        Check.faultIs(0, "sn13;u", 3);
        Check.faultIs(0, "sf0;u", 2);
        Check.faultIs(0, "sf5;u", 2);
        Check.faultIs(0, "sc100;u", 4);
        Check.faultIs(0, "sz100;u", 4);
        Check.faultIs(0, "s;u;s", 4);
        Check.faultIs(0, "sk1;u", 1);
        Check.faultIs(0, "dk0;u", 2);
        Check.faultIs(0, "dk7;u", 2);
        Check.faultIs(0, "dq0;u", 2);
        Check.faultIs(0, "dq100;u", 4);
        Check.faultIs(0, "u;u;u;u;u;u;u;u;u;u;u", 20);
        Check.faultIs(0, "u;d;d;d;d;d;d;d", 14);
    }

    private static void promise4FaultOfScripts() {
        String[] good = {"p", " p ; r ", "t 5", "x7;f0", "c9999", "c 0000", "p;p;p;p;p;p;p;p;p;p;p;p;p;p;p;p "};
        for (String text : good) {
            Check.faultIs(1, text, NONE);
        }
        Check.faultIs(1, "", 0);
        Check.faultIs(1, "  ", 2);
        Check.faultIs(1, "p;", 2);
        Check.faultIs(1, "pp", 1);
        Check.faultIs(1, "p1", 1);
        Check.faultIs(1, "t", 1);
        Check.faultIs(1, "t ", 2);
        Check.faultIs(1, "t x", 2);
        Check.faultIs(1, "t55", 2);
        Check.faultIs(1, "t5 5", 3);
        Check.faultIs(1, "c", 1);
        Check.faultIs(1, "c;p", 1);
        Check.faultIs(1, "c00001", 5);
        Check.faultIs(1, "c1 2", 3);
        Check.faultIs(1, "f0;q", 3);
        Check.faultIs(1, "p;p;p;p;p;p;p;p;p;p;p;p;p;p;p;p;", 31);
        Check.faultIs(1, "p;p;p;p;p;p;p;p;p;p;p;p;p;p;p;p ;p", 32);
        due("fault of no such sort", new BurstPeeler().fault(2), -2);
        due("fault of no such sort", new BurstPeeler().fault(-1), -2);
    }

    private static void promise5Text() {
        BurstPeeler x = Check.withField(CHAIN);
        due("tape is empty", x.count(2), 0);
        for (int i = 0; i < 4; i++) {
            due("number of the script", Check.script(x, "p"), i);
        }
        due("a fifth script", Check.script(x, "r"), NONE);
        due("its tape stays", x.count(2), 1);
        due("no such sort", x.text(2), NONE);
        due("no such sort", x.text(-1), NONE);
        x.tell(0);
        x.tell(0);
        x.file(2, 0);
        x.capture(5);
        x.image();
        Check.tape(x, "u a1b1");
        due("a wrong field", x.text(0), NONE);
        due("the old one stays", x.count(0), 3);
        Check.tape(x, "s f2;u a1b1;u");
        due("another field", x.text(0), 2);
        due("capture is new", x.rule(2), 0);
        due("nobody is known", x.most(0), 0);
        due("no log", x.count(3), 0);
        due("no acts", x.count(4), 0);
        due("no degrees", x.weight(2), 0);
        due("shelves are empty", x.most(7), 0);
        due("no image", x.back(), NONE);
        due("nothing to undo", x.undo(), NONE);
        due("scripts stay", x.count(1), 4);
        due("status stays", x.status(2), 1);
    }

    private static void promise6Rule() {
        BurstPeeler x = Check.withField("u");
        int[] usual = {8, 1, 0, 0, 8, NONE};
        BurstPeeler y = Check.withField("u;s z7 c33 f3 n5");
        int[] told = {5, 3, 33, 7, 15, NONE};
        for (int what = 0; what < 6; what++) {
            due("rule, usual", x.rule(what), usual[what]);
            due("rule, told", y.rule(what), told[what]);
        }
        due("rule(-1)", y.rule(-1), NONE);
        y.capture(4);
        due("rule(2) as now", y.rule(2), 4);
    }

    private static void promise7Weight() {
        BurstPeeler x = Check.withField("d;d k3q98;u;d q5 k3;d k6 q99;d k6q99");
        int[] want = {NONE, 1, 0, 103, 0, 0, 198, NONE};
        for (int k = 0; k < 8; k++) {
            due("weight(" + k + ")", x.weight(k), want[k]);
        }
        due("weight(-1)", x.weight(-1), NONE);
    }

    private static void promise8User() {
        BurstPeeler x = Check.withField("s f2;u;u p7g3t1a9;u a1b6");
        int[] usual = {10, 1, 0, 0, 0, NONE};
        int[] told = {7, 3, 1, 2, 0, 1};
        for (int what = 0; what < 6; what++) {
            due("user(0, " + what + ")", x.user(0, what), usual[what]);
            due("user(1, " + what + ")", x.user(1, what), told[what]);
        }
        due("copies in both frames", x.user(2, 3), 3);
        x.tell(1);
        due("user(1, 4)", x.user(1, 4), 3);
        due("user(1, 5)", x.user(1, 5), 0);
        Check.throwsNoSuchElement(x, 3, 0);
        Check.throwsNoSuchElement(x, -1, 0);
        Check.throwsNoSuchElement(x, 0, 6);
        Check.throwsNoSuchElement(x, 0, -1);
        BurstPeeler chain = Check.withField(CHAIN);
        due("haste of the end", chain.user(2, 5), 1);
        due("haste of the middle", chain.user(1, 5), 2);
        BurstPeeler row = Check.withField("sn12;ua3;ua6;ua12;ua24;ua48;ua96;ua192;ua384;ua768;ua512");
        for (int user = 0; user < 10; user++) {
            due("haste along a row", row.user(user, 5), user + 1);
        }
        due("rounds along a row", row.solved(2), 10);
        due("haste in the ring", Check.withField(RING).user(1, 5), NONE);
    }

    private static void promise9Copies() {
        BurstPeeler x = Check.withField("s n12f4;u t2a2049b4095;u a1b2;u t3a4095");
        due("copies(0)", x.copies(0), 2049L << 24 | 4095L << 36);
        due("copies(1)", x.copies(1), 1L | 2L << 12);
        due("copies(2)", x.copies(2), 4095L << 36);
        due("copies(3)", x.copies(3), 0);
        due("copies(-1)", x.copies(-1), 0);
        x.tell(2);
        due("copies of one that is known", x.copies(2), 4095L << 36);
    }

    private static void promise10Strength() {
        BurstPeeler x = Check.withField("u p7g3;u p99;u p1g9;u g7");
        due("strength(0)", x.strength(0), Float.floatToIntBits(7f / 10f / 3f / 3f));
        due("strength(1)", x.strength(1), Float.floatToIntBits(99f / 10f));
        due("strength(2)", x.strength(2), Float.floatToIntBits(1f / 10f / 9f / 9f));
        due("strength(3)", x.strength(3), Float.floatToIntBits(1f / 7f / 7f));
        due("strength(4)", x.strength(4), NONE);
        due("strength(-1)", x.strength(-1), NONE);
    }

    private static void promise11Din() {
        BurstPeeler x = Check.withField("s n2z3c5;u p99a1;u p1g9a1;u p7g7a1;u p53g3a3");
        float a = 99f / 10f;
        float b = 1f / 10f / 9f / 9f;
        float c = 7f / 10f / 7f / 7f;
        float d = 53f / 10f / 3f / 3f;
        float noise = 3f / 10f;
        due("din(0, 0)", x.din(0, 0), Float.floatToIntBits(noise + b + c + d));
        due("din(1, 0)", x.din(1, 0), Float.floatToIntBits(noise + a + c + d));
        due("din(3, 0)", x.din(3, 0), Float.floatToIntBits(noise + a + b + c));
        due("din(3, 1)", x.din(3, 1), Float.floatToIntBits(noise));
        due("din without a copy", x.din(0, 1), NONE);
        due("din, no such slot", x.din(0, 2), NONE);
        due("din, no such slot", x.din(0, -1), NONE);
        due("din, no such user", x.din(4, 0), NONE);
        x.tell(0);
        due("din of one that is known", x.din(0, 0), NONE);
        due("din without one that is known", x.din(1, 0), Float.floatToIntBits(noise + c + d));
        due("din of nothing", Check.withField("u a1").din(0, 0), 0);
    }

    private static void promise12Margin() {
        BurstPeeler x = Check.withField("s n2z3c17;u p99a1;u p7g7a3");
        float a = 99f / 10f;
        float c = 7f / 10f / 7f / 7f;
        float noise = 3f / 10f;
        float times = 17f / 10f;
        due("margin(0, 0)", x.margin(0, 0), Float.floatToIntBits(a - times * (noise + c)));
        due("margin below 0", x.margin(1, 0), Float.floatToIntBits(c - times * (noise + a)));
        due("margin(1, 1)", x.margin(1, 1), Float.floatToIntBits(c - times * noise));
        due("margin without a copy", x.margin(0, 1), NONE);
        due("margin, no such user", x.margin(2, 0), NONE);
        due("margin, no such slot", x.margin(0, 9), NONE);
        x.capture(0);
        due("margin by capture 0", x.margin(1, 0), Float.floatToIntBits(c));
        x.tell(1);
        due("margin of one that is known", x.margin(1, 0), NONE);
        due("margin of 0", Check.withField("s c10;u a1;u a1").margin(0, 0), 0);
    }

    private static void promise13Clear() {
        BurstPeeler x = Check.withField("s n2c10;u a3;u a1;u p9 a2");
        due("as strong as the din", x.clear(0, 0), 1);
        due("as strong as the din", x.clear(1, 0), 1);
        due("weaker", x.clear(2, 1), 0);
        x.capture(11);
        due("too weak by 11", x.clear(0, 0), 0);
        due("strong enough by 11", x.clear(0, 1), 1);
        x.capture(0);
        due("not alone by 0", x.clear(0, 1), 0);
        x.tell(2);
        due("alone by 0", x.clear(0, 1), 1);
        due("one that is known", x.clear(2, 1), NONE);
        due("no copy", x.clear(1, 1), NONE);
        due("no such slot", x.clear(1, 2), NONE);
        due("no such user", x.clear(3, 0), NONE);
        BurstPeeler noisy = Check.withField("s c20z10;u p19a1;u p20a2");
        due("alone but below the noise", noisy.clear(0, 0), 0);
        due("alone, as strong as twice the noise", noisy.clear(1, 1), 1);
        noisy.capture(0);
        due("noise is nothing by 0", noisy.clear(0, 0), 1);
    }

    private static void promise14Slot() {
        BurstPeeler x = Check.withField(CHAIN);
        x.tell(2);
        int[][] want = {{1, 1, 1, 1}, {2, 2, 3, 0}, {2, 1, 2, 2}, {1, 0, 0, 0}};
        for (int s = 0; s < 4; s++) {
            for (int what = 0; what < 4; what++) {
                due("slot(" + s + ", " + what + ")", x.slot(s, what), want[s][what]);
            }
        }
        due("no such slot", x.slot(4, 0), HIDDEN);
        due("no such slot", x.slot(-1, 0), HIDDEN);
        due("no such what", x.slot(0, 4), HIDDEN);
        due("no such what", x.slot(0, -1), HIDDEN);
        due("all that are clear", Check.withField("s c10;u a1;u a1").slot(0, 3), 3);
    }

    private static void promise15Peel() {
        BurstPeeler x = Check.withField("s c10;u a2;u p90a4;u a6");
        due("first slot, first user", x.peel(), 0);
        due("captured", x.user(0, 4), 2);
        due("then the next", x.peel(), 2);
        due("single", x.user(2, 4), 1);
        due("then the last", x.peel(), 1);
        due("none", x.peel(), NONE);
        due("status(2)", x.status(2), 1);
        due("three acts", x.count(4), 3);
        due("log: sort", x.log(1, 0), 0);
        due("log: user", x.log(1, 1), 2);
        due("log: known", x.log(1, 2), 2);
        BurstPeeler none = new BurstPeeler();
        due("no field", none.peel(), NONE);
        due("status(0)", none.status(0), 1);
        BurstPeeler order = Check.withField("u a4;u a2;u a1");
        due("slots go ahead of users", order.peel(), 2);
    }

    private static void promise16Round() {
        BurstPeeler x = Check.withField(CHAIN);
        due("round", x.round(), 2);
        due("known", x.most(0), 5);
        due("single", x.user(0, 4), 1);
        due("log: sort", x.log(0, 0), 1);
        due("log: user", x.log(0, 1), NONE);
        due("log: known", x.log(0, 2), 2);
        due("round", x.round(), 1);
        due("none", x.round(), NONE);
        due("status(2)", x.status(2), 1);
        BurstPeeler ways = Check.withField("s c10;u p90a5;u p5a1;u a2");
        due("round", ways.round(), 2);
        due("by its first slot", ways.user(0, 4), 2);
        due("alone", ways.user(2, 4), 1);
        due("still unknown", ways.user(1, 4), 0);
        BurstPeeler none = new BurstPeeler();
        due("no field", none.round(), NONE);
        due("status(0)", none.status(0), 1);
    }

    private static void promise17Tell() {
        BurstPeeler x = Check.withField(RING);
        due("tell", x.tell(1), 1);
        due("told", x.user(1, 4), 3);
        due("once more", x.tell(1), NONE);
        due("status(2)", x.status(2), 1);
        due("no such user", x.tell(3), NONE);
        due("no such user", x.tell(-1), NONE);
        due("status(0)", x.status(0), 2);
        due("log: sort", x.log(0, 0), 2);
        due("log: user", x.log(0, 1), 1);
        due("one entry", x.count(3), 1);
    }

    private static void promise18Forget() {
        BurstPeeler x = Check.withField(STRONG);
        x.peel();
        x.tell(1);
        x.peel();
        due("it was captured", x.forget(0), 2);
        due("it was told", x.forget(1), 3);
        due("it was a single", x.forget(2), 1);
        due("it is unknown", x.forget(2), NONE);
        due("status(2)", x.status(2), 1);
        due("no such user", x.forget(3), NONE);
        due("status(0)", x.status(0), 1);
        due("log: sort", x.log(0, 0), 3);
        due("log: user", x.log(0, 1), 2);
        due("log: known", x.log(0, 2), 0);
    }

    private static void promise19Turn() {
        BurstPeeler x = Check.withField(FRAMES);
        due("it comes", x.turn(0, 1), 3);
        due("it goes", x.turn(0, 0), 2);
        due("copies", x.copies(0), 10);
        due("frame too late", x.turn(0, 4), NONE);
        due("frame too early", x.turn(2, 3), NONE);
        due("status(1)", x.status(1), 2);
        due("no such slot", x.turn(0, 6), NONE);
        due("no such slot", x.turn(0, -1), NONE);
        due("no such user ahead of bounds", x.turn(3, 0), NONE);
        due("status(0)", x.status(0), 3);
        x.tell(1);
        due("one that is known", x.turn(1, 3), 3);
        due("log: sort", x.log(0, 0), 4);
        due("log: user", x.log(0, 1), 1);
        due("log: known", x.log(0, 2), 1);
    }

    private static void promise20Capture() {
        BurstPeeler x = Check.withField(STRONG);
        due("capture(99)", x.capture(99), 10);
        due("capture(0)", x.capture(0), 99);
        due("capture(0) again", x.capture(0), NONE);
        due("status(2)", x.status(2), 1);
        due("capture(100)", x.capture(100), NONE);
        due("capture(-1)", x.capture(-1), NONE);
        due("status(1)", x.status(1), 2);
        due("log: sort", x.log(0, 0), 5);
        due("log: user", x.log(0, 1), NONE);
        BurstPeeler none = new BurstPeeler();
        due("no field, out of bounds", none.capture(100), NONE);
        due("status(0), the first of several", none.status(0), 1);
        due("status(1)", none.status(1), 0);
    }

    private static void promise21Draw() {
        BurstPeeler x = Check.withField("s n4f3;u a15;u t2a1;d k6;d k2q3");
        long[] seeds = {0, 1, 2, 3, -1, Long.MAX_VALUE, Long.MIN_VALUE, 123456789012L, -77};
        for (long seed : seeds) {
            long two = Lots.copies(seed, 0, 8, 0, 0, 3, 0, 0, 0, 1);
            due("draw in two frames", x.draw(0, seed), Long.bitCount(two));
            due("copies then", x.copies(0), two);
            long one = Lots.copies(seed, 8, 4, 0, 0, 3, 0, 0, 0, 1);
            due("draw in the last frame", x.draw(1, seed), Long.bitCount(one));
            due("copies then", x.copies(1), one);
        }
        due("log: sort", x.log(0, 0), 6);
        due("log: user", x.log(0, 1), 1);
        due("no such user", x.draw(2, 0), NONE);
        due("status(0)", x.status(0), 1);
        BurstPeeler bare = Check.withField(RING);
        due("no degrees", bare.draw(0, 0), NONE);
        due("status(2)", bare.status(2), 1);
        due("no such user ahead of degrees", bare.draw(3, 0), NONE);
        due("status(0)", bare.status(0), 1);
    }

    private static void promise22Swap() {
        BurstPeeler x = Check.withField("s f2;u a1b1;u a6;u t1a1;u a6");
        due("swap", x.swap(0, 1), 2);
        due("copies(0)", x.copies(0), 6);
        due("copies(1)", x.copies(1), 257);
        due("log: sort", x.log(0, 0), 8);
        due("log: user", x.log(0, 1), 0);
        due("another frame", x.swap(0, 2), NONE);
        due("status(1)", x.status(1), 1);
        due("both are one", x.swap(0, 0), NONE);
        due("the same copies", x.swap(0, 3), NONE);
        due("status(2)", x.status(2), 2);
        due("no such users", x.swap(0, 4), NONE);
        due("no such users", x.swap(-1, 0), NONE);
        due("status(0)", x.status(0), 2);
    }

    private static void promise23And24FileAndShelf() {
        BurstPeeler x = Check.withField(STRONG);
        due("unknown", x.file(1, 0), NONE);
        due("status(2)", x.status(2), 1);
        x.peel();
        x.tell(1);
        x.peel();
        due("captured", x.file(1, 0), 0);
        due("told", x.file(2, 1), 0);
        due("single", x.file(0, 2), 0);
        due("log: sort", x.log(0, 0), 7);
        due("log: user", x.log(0, 1), 2);
        due("wrong shelf", x.file(0, 0), NONE);
        due("wrong shelf", x.file(2, 2), NONE);
        due("status(3)", x.status(3), 2);
        for (int place = 1; place < 10; place++) {
            due("once more", x.file(1, 0), place);
        }
        due("full", x.file(1, 0), NONE);
        due("status(3)", x.status(3), 3);
        due("no such shelf", x.file(3, 0), NONE);
        due("no such shelf", x.file(-1, 0), NONE);
        due("no such user", x.file(0, 3), NONE);
        due("status(0)", x.status(0), 3);
        x.forget(0);
        due("it stays", x.shelf(1, 9), 0);
        due("no such place", x.shelf(1, 10), NONE);
        due("no such place", x.shelf(1, -1), NONE);
        due("nobody", x.shelf(0, 1), NONE);
        due("who", x.shelf(0, 0), 2);
        due("who", x.shelf(2, 0), 1);
        due("no such shelf", x.shelf(3, 0), NONE);
        due("no such shelf", x.shelf(-1, 0), NONE);
    }

    /** The same years by single calls on another object. */
    private static void yearsByHand(BurstPeeler y, int n, long seed, int frameOfEach) {
        Lots lots = new Lots(seed);
        for (int i = 0; i < n; i++) {
            int lot = lots.next(8);
            if (lot < 2) {
                y.peel();
            } else if (lot == 2) {
                y.round();
            } else if (lot == 7) {
                y.capture(lots.next(30));
            } else {
                int user = lots.next(y.count(0));
                if (lot == 3) {
                    y.tell(user);
                } else if (lot == 4) {
                    y.forget(user);
                } else {
                    int room = y.rule(0) * (frameOfEach + 1 < y.rule(1) ? 2 : 1);
                    y.turn(user, frameOfEach * y.rule(0) + lots.next(room));
                }
            }
        }
    }

    private static void promise25Years() {
        String[] fields = {"s n4f2;u a3;u a6;u a12b3;u p50a3", "s n4f2;u t1a3;u t1a6;u t1a12"};
        for (int i = 0; i < fields.length; i++) {
            for (long seed = -3; seed < 12; seed++) {
                BurstPeeler x = Check.withField(fields[i]);
                BurstPeeler y = Check.withField(fields[i]);
                yearsByHand(y, 40, seed, i);
                due("years(40, " + seed + ")", x.years(40, seed), Integer.bitCount(y.most(0)));
                due("known", x.most(0), y.most(0));
                due("capture", x.rule(2), y.rule(2));
                due("acts", x.count(4), y.count(4));
                for (int u = 0; u < x.count(0); u++) {
                    due("copies", x.copies(u), y.copies(u));
                }
                for (int e = 0; e < x.count(3); e++) {
                    due("log", x.log(e, 0) * 1000L + x.log(e, 1) * 10 + x.log(e, 2),
                        y.log(e, 0) * 1000L + y.log(e, 1) * 10 + y.log(e, 2));
                }
                due("no status", x.status(0) + x.status(1) + x.status(2) + x.status(3), 0);
            }
        }
        BurstPeeler x = Check.withField(CHAIN);
        due("years(0)", x.years(0, 1), NONE);
        due("years(41)", x.years(41, 1), NONE);
        due("no status", x.status(1), 0);
    }

    private static void promise26Status() {
        BurstPeeler x = Check.withField(CHAIN);
        due("status(4)", x.status(4), NONE);
        due("status(-1)", x.status(-1), NONE);
        x.tell(9);
        x.tell(1);
        x.tell(1);
        x.undo();
        due("status(0)", x.status(0), 1);
        due("status(2) is not undone", x.status(2), 1);
        due("status(1)", x.status(1), 0);
        due("status(3)", x.status(3), 0);
    }

    private static void promise27Undo() {
        BurstPeeler x = Check.withField(CHAIN);
        x.tell(1);
        x.file(2, 1);
        for (int i = 0; i < 98; i++) {
            x.turn(0, 0);
        }
        due("forty acts", x.count(4), 40);
        due("sixty entries", x.count(3), 60);
        due("the oldest of them", x.log(59, 0), 4);
        for (int left = 39; left >= 0; left--) {
            due("undo", x.undo(), left);
        }
        due("none", x.undo(), NONE);
        due("sixty entries again", x.count(3), 60);
        due("the oldest of them", x.log(59, 0), 2);
        due("the one behind it", x.log(58, 0), 7);
        BurstPeeler y = Check.withField("s n3c10;u p90a1;u a3;d k3;u a4");
        y.capture(20);
        y.swap(0, 1);
        y.draw(0, 5);
        y.tell(2);
        y.file(2, 2);
        y.forget(2);
        y.round();
        due("undo of a round", y.undo(), 6);
        due("nobody is known", y.most(0), 0);
        due("undo of forget", y.undo(), 5);
        due("told", y.user(2, 4), 3);
        due("undo of file", y.undo(), 4);
        due("the shelf is empty", y.shelf(2, 0), NONE);
        due("undo of tell", y.undo(), 3);
        due("undo of draw", y.undo(), 2);
        due("copies", y.copies(0), 3);
        due("undo of swap", y.undo(), 1);
        due("copies", y.copies(0), 1);
        due("undo of capture", y.undo(), 0);
        due("capture", y.rule(2), 10);
        due("no entries", y.count(3), 0);
    }

    private static void promise28Log() {
        BurstPeeler x = Check.withField(CHAIN);
        due("nothing yet", x.log(0, 0), HIDDEN);
        x.tell(2);
        x.capture(3);
        due("latest", x.log(0, 0), 5);
        due("latest, user", x.log(0, 1), NONE);
        due("latest, known", x.log(0, 2), 1);
        due("ahead of it", x.log(1, 0), 2);
        due("ahead of it, user", x.log(1, 1), 2);
        due("no such entry", x.log(2, 0), HIDDEN);
        due("no such entry", x.log(-1, 0), HIDDEN);
        due("no such what", x.log(0, 3), HIDDEN);
        due("no such what", x.log(0, -1), HIDDEN);
        for (int i = 0; i < 60; i++) {
            x.turn(0, 0);
        }
        due("the latest sixty", x.log(59, 0), 4);
        due("no more", x.log(60, 0), HIDDEN);
    }

    private static void promise29And30SolvedAndAhead() {
        BurstPeeler x = Check.withField(CHAIN);
        due("solved(0)", x.solved(0), 3);
        due("solved(1)", x.solved(1), 7);
        due("solved(2)", x.solved(2), 2);
        due("solved(3)", x.solved(3), NONE);
        due("solved(-1)", x.solved(-1), NONE);
        int[] ahead = {0, 5, 7, 7};
        for (int n = 0; n < 4; n++) {
            due("ahead(" + n + ")", x.ahead(n), ahead[n]);
        }
        due("ahead(20)", x.ahead(20), 7);
        due("ahead(21)", x.ahead(21), NONE);
        due("ahead(-1)", x.ahead(-1), NONE);
        due("nothing was done", x.count(4), 0);
        BurstPeeler ring = Check.withField(RING);
        ring.turn(2, 2);
        ring.tell(0);
        due("known ones count too", ring.solved(0), 3);
        due("one round", ring.solved(2), 1);
        due("ahead(0) has those known now", ring.ahead(0), 1);
        due("stuck ones stay", Check.withField(RING).solved(1), 0);
        due("no round", Check.withField(RING).solved(2), 0);
    }

    private static void promise31Fewest() {
        BurstPeeler ring = Check.withField(RING);
        BurstPeeler pairs = Check.withField("s n4;u a1;u a2;u a2;u a1;u;u a4");
        for (int way = 0; way < 2; way++) {
            due("one of the ring", ring.fewest(way, 0), 1);
            due("the lowest of the ring", ring.fewest(way, 1), 1);
            due("one of each pair, and the one without copies", pairs.fewest(way, 0), 3);
            due("the lowest of each", pairs.fewest(way, 1), 1 | 2 | 16);
            due("nobody of the chain", Check.withField(CHAIN).fewest(way, 0), 0);
            due("nobody of the chain", Check.withField(CHAIN).fewest(way, 1), 0);
        }
        ring.tell(0);
        due("not the known ones", ring.fewest(0, 1), 0);
        due("no such way", ring.fewest(2, 0), NONE);
        due("no such way", ring.fewest(-1, 0), NONE);
        due("no such what", ring.fewest(0, 2), NONE);
        due("no such what", ring.fewest(0, -1), NONE);
    }

    private static void promise32Tight() {
        due("nine times as strong", Check.withField("s n2;u p90a1;u a1").tight(), 90);
        due("all by 99", Check.withField(CHAIN).tight(), 99);
        due("none", Check.withField("u").tight(), NONE);
        due("as strong as one another", Check.withField(RING).tight(), 10);
        due("noise alone", Check.withField("s z20;u p30 a1").tight(), 15);
        due("below one tenth", Check.withField("s z99;u p9g9a1").tight(), NONE);
        BurstPeeler x = Check.withField("s z99;u p9g9a1");
        x.tell(0);
        due("all are known", x.tight(), 99);
        BurstPeeler y = Check.withField("s n2c50;u p90a1;u a1");
        y.tight();
        due("capture stays", y.rule(2), 50);
        due("the answers stay", y.solved(1), 3);
    }

    private static void promise33Touch() {
        BurstPeeler x = Check.withField("s f2;u a7b1;u a14b1;u t1a1");
        due("touch(0, 1)", x.touch(0, 1), 3);
        due("touch(1, 0)", x.touch(1, 0), 3);
        due("touch(0, 2)", x.touch(0, 2), 1);
        due("both are one", x.touch(1, 1), NONE);
        due("no such one", x.touch(0, 3), NONE);
        due("no such one", x.touch(-1, 0), NONE);
        x.tell(1);
        due("one is known", x.touch(0, 1), NONE);
        due("one is known", x.touch(1, 0), NONE);
    }

    private static void promise34Frame() {
        BurstPeeler x = Check.withField("s n3f3;u a1b3;u t1a1;u t1a5b1;u a4;u t1");
        x.tell(2);
        int[][] want = {{2, 0, 2, 2, 0}, {3, 1, 5, 1, 1}, {0, 0, 1, 0, 0}};
        for (int f = 0; f < 3; f++) {
            for (int what = 0; what < 5; what++) {
                due("frame(" + f + ", " + what + ")", x.frame(f, what), want[f][what]);
            }
        }
        due("no such frame", x.frame(3, 0), NONE);
        due("no such frame", x.frame(-1, 0), NONE);
        due("no such what", x.frame(0, 5), NONE);
        due("no such what", x.frame(0, -1), NONE);
    }

    private static void promise35Stuck() {
        BurstPeeler x = Check.withField("s n5;u a3;u a6;u a5;u a24;u a24;u a8");
        // Stuck: the ring, the pair, both, the pair with 5, all.
        int[] want = {2, 8 | 16, 5, 63};
        for (int what = 0; what < 4; what++) {
            due("stuck(" + what + ")", x.stuck(what), want[what]);
        }
        x.tell(3);
        int[] then = {3, 7, 1, 7};
        for (int what = 0; what < 4; what++) {
            due("stuck(" + what + ")", x.stuck(what), then[what]);
            due("stuck of the chain", Check.withField(CHAIN).stuck(what), 0);
        }
        due("no such what", x.stuck(4), NONE);
        due("no such what", x.stuck(-1), NONE);
        due("one without copies", Check.withField("u;u a1").stuck(1), 1);
    }

    private static void promise36And37Slid() {
        BurstPeeler x = Check.withField(FRAMES);
        int[][] at = {{0, 0, 0}, {1, 0, 0}, {2, 1, 0}};
        for (int w = 1; w <= 3; w++) {
            due("slid(" + w + ")", x.slid(w), 7);
            for (int u = 0; u < 3; u++) {
                due("slidAt(" + u + ", " + w + ")", x.slidAt(u, w), at[u][w - 1]);
            }
        }
        due("slid(0)", x.slid(0), NONE);
        due("slid(4)", x.slid(4), NONE);
        due("slidAt, w 0", x.slidAt(0, 0), NONE);
        due("slidAt, w 4", x.slidAt(0, 4), NONE);
        due("slidAt, no such user", x.slidAt(3, 1), NONE);
        x.tell(2);
        due("known now", x.slidAt(2, 1), -2);
        // 1 is CLEAR in FRAME 1 alone, and frees 0 in FRAME 0: too late for a window of one FRAME.
        BurstPeeler late = Check.withField("s n2f2;u a1;u a1b1;u t1a2");
        due("too late", late.slid(1), 6);
        due("never", late.slidAt(0, 1), NONE);
        due("in time", late.slid(2), 7);
        due("in time", late.slidAt(0, 2), 0);
    }

    private static void promise38Blame() {
        BurstPeeler x = Check.withField("s n4;u a3;u a6;u a5;u a8;u a8");
        due("blame in the ring", x.blame(0), 2 | 4);
        due("blame in the pair", x.blame(3), 16);
        due("no such user", x.blame(5), NONE);
        due("no such user", x.blame(-1), NONE);
        x.tell(1);
        due("it is known", x.blame(1), NONE);
        due("known anyway: by any other", x.blame(0), 4 | 8 | 16);
        due("by another one that is unknown", x.blame(4), 8);
    }

    private static void promise39Senders() {
        BurstPeeler x = Check.withField("s n12f2;u a4095b4095;u a1;u;u b1;u t1a3");
        int[] k = {0, 1, 2, 3, 24};
        int[] want = {1, 2, 1, 0, 1};
        for (int i = 0; i < k.length; i++) {
            due("senders(" + k[i] + ")", x.senders(k[i]), want[i]);
        }
        due("senders(25)", x.senders(25), NONE);
        due("senders(-1)", x.senders(-1), NONE);
    }

    private static void promise40And41LessAndKey() {
        BurstPeeler x = Check.withField("s n5;u a1;u a1;u a6;u a12;u a10;u a16");
        due("less(0)", x.less(0), 2);
        due("less(1)", x.less(1), 3);
        due("key(0)", x.key(0), 2);
        due("key(1)", x.key(1), 4);
        x.tell(5);
        due("less(1), with those known now", x.less(1), 3);
        due("no such what", x.less(2), HIDDEN);
        due("no such what", x.key(2), HIDDEN);
        due("no such what", x.less(-1), HIDDEN);
        due("no such what", x.key(-1), HIDDEN);
        BurstPeeler one = Check.withField("u");
        due("less of one alone", one.less(0), 0);
        due("less of one alone", one.less(1), 0);
        due("key of one alone", one.key(1), 1);
        one.tell(0);
        due("none is unknown", one.less(0), NONE);
        due("none is unknown", one.less(1), 0);
        due("none is unknown", one.key(0), NONE);
        due("none is unknown", one.key(1), 0);
    }

    private static void promise42More() {
        BurstPeeler x = Check.withField("s n4;u a3;u a6;u a5");
        due("the free slot", x.more(0, 0), 3);
        due("all are known by it", x.more(0, 1), 3);
        due("no such user", x.more(3, 0), HIDDEN);
        due("no such user", x.more(-1, 0), HIDDEN);
        due("no such what", x.more(0, 2), HIDDEN);
        due("no such what", x.more(0, -1), HIDDEN);
        due("copies stay", x.copies(0), 3);
        BurstPeeler ring = Check.withField(RING);
        due("nothing helps: the lowest", ring.more(1, 0), 0);
        due("nothing helps", ring.more(1, 1), 0);
        BurstPeeler full = Check.withField("s n2f2;u a3b3;u t1a1");
        due("copies in all", full.more(0, 0), NONE);
        due("copies in all", full.more(0, 1), 0);
        due("of its frame alone", full.more(1, 0), 3);
        due("known then", full.more(1, 1), 2);
        BurstPeeler two = Check.withField("s n2f3;u a1;u a1;u t1a3;u t1a3");
        due("of the next frame, too", two.more(0, 0), 1);
        two.turn(0, 1);
        two.turn(1, 1);
        due("the lowest of those that leave as many", two.more(0, 0), 2);
        due("one of the frame behind", two.more(2, 0), 4);
        due("two are known by it", two.more(2, 1), 2);
        two.tell(0);
        due("for one that is known", two.more(0, 0), 2);
    }

    private static void promise43Jam() {
        BurstPeeler x = Check.withField("s n12;u a2048;u a2049;u;u a1");
        long[] parts = {1000000000L};
        for (int s = 0; s < 12; s++) {
            long[] split = new long[2 * parts.length];
            for (int i = 0; i < parts.length; i++) {
                split[2 * i] = parts[i] * 33 / 100;
                split[2 * i + 1] = parts[i] - split[2 * i];
            }
            parts = split;
        }
        // 0 is known behind 1, which is known behind 3: SLOTS 0 and 11 must be free. Nobody is CLEAR at first.
        due("nobody is clear", x.jam(0, 0, 33), 0);
        x.turn(3, 1);
        long all = 0;
        long one = 0;
        for (int i = 0; i < parts.length; i++) {
            boolean free0 = (i >> 11 & 1) == 1;
            boolean free1 = (i >> 10 & 1) == 1;
            boolean free11 = (i & 1) == 1;
            one += free1 ? parts[i] : 0;
            all += free0 && free1 && free11 ? parts[i] : 0;
        }
        due("jam(3, 0, 33)", x.jam(3, 0, 33), one);
        due("jam(0, 0, 33)", x.jam(0, 0, 33), all);
        due("jam(0, 0, 0)", x.jam(0, 0, 0), 1000000000);
        due("jam(0, 0, 100)", x.jam(0, 0, 100), 0);
        due("without copies", x.jam(2, 0, 1), 0);
        due("chance 101", x.jam(0, 0, 101), NONE);
        due("chance -1", x.jam(0, 0, -1), NONE);
        due("no such frame", x.jam(0, 1, 1), NONE);
        due("no such frame", x.jam(0, -1, 1), NONE);
        due("no such user", x.jam(4, 0, 1), NONE);
        x.tell(2);
        due("known now", x.jam(2, 0, 100), 1000000000);
        BurstPeeler frames = Check.withField("s n2f2;u a1b1");
        due("one frame alone is jammed", frames.jam(0, 0, 100), 1000000000);
        BurstPeeler last = Check.withField("s n2f2;u a1;u t1a2");
        due("not in the second frame", last.jam(0, 1, 25), 1000000000);
        due("in the second frame", last.jam(1, 1, 25), 750000000);
    }

    private static void promise44To46Degrees() {
        BurstPeeler x = Check.withField("s n4;u;d k2");
        due("share(2, 0)", x.share(2, 0), Double.doubleToLongBits(1.0));
        due("share(2, 1)", x.share(2, 1), Double.doubleToLongBits(0.5));
        due("share(2, 2)", x.share(2, 2), Double.doubleToLongBits(0.25));
        due("share(1, 1)", x.share(1, 1), 0);
        double hold = 1 - (1 - 0.5) * (1 - 0.5);
        due("share(3, 2)", x.share(3, 2), Double.doubleToLongBits(1 - (1 - 0.5 * hold) * (1 - 0.5 * hold)));
        due("share(0, 1)", x.share(0, 1), NONE);
        due("share(61, 1)", x.share(61, 1), NONE);
        due("share(1, -1)", x.share(1, -1), NONE);
        due("share(1, 41)", x.share(1, 41), NONE);
        due("share(60, 40)", x.share(60, 40) > 0 ? 1 : 0, 1);
        BurstPeeler mixed = Check.withField("s n7;u;d k3q2;d k2q5");
        double reach = 16.0 / 7.0 / 7.0;
        double h = 1 - (1 - reach) * (1 - reach) * (1 - reach);
        due("share of two degrees", mixed.share(4, 1), Double.doubleToLongBits((10.0 * h + 6.0 * h * h) / 16.0));
        due("reach is 1 at most", Check.withField("s n2;u;d k6").share(2, 9), Double.doubleToLongBits(1.0));
        // Of two COPIES each in 12 SLOTS a share s becomes some (m - 1) / 6 of it: it fades up to m = 6 alone.
        due("limit", Check.withField("s n12;u;d k2").limit(), 6);
        due("limit, reached by the 40th round", Check.withField("sn9;u;dk2;dk4q13").limit(), 7);
        due("limit, missed by one round", Check.withField("sn10;u;dk2q9;dk3q8").limit(), 7);
        due("limit of one sender", Check.withField("sn2;u;dk2").limit(), 1);
        due("limit of one copy", Check.withField("u;d").limit(), NONE);
        due("limit without degrees", Check.withField("u").limit(), NONE);
        due("share without degrees", Check.withField("u").share(1, 1), NONE);
        due("sample without degrees", Check.withField("u").sample(1), NONE);
        BurstPeeler three = Check.withField("u;d k5q2;d k1q1;d k3q4");
        for (long seed = -5; seed < 30; seed++) {
            int lot = new Lots(seed).next(7);
            due("sample(" + seed + ")", three.sample(seed), lot < 1 ? 1 : lot < 5 ? 3 : 5);
        }
        due("sample is no act", three.count(4), 0);
    }

    private static void promise47Load() {
        BurstPeeler x = Check.withField("s n7f3;u;u");
        due("load(0)", x.load(0), 0);
        due("load(100), cut", x.load(100), 9);
        due("load(999)", x.load(999), 95);
        due("load(1000)", x.load(1000), NONE);
        due("load(-1)", x.load(-1), NONE);
    }

    private static void promise48Step() {
        BurstPeeler x = new BurstPeeler();
        Check.script(x, "p;r;t3;f0;x9;c0123");
        int[] number = {NONE, NONE, 3, 0, 9, 123};
        for (int i = 0; i < 6; i++) {
            due("step(0, " + i + ", 0)", x.step(0, i, 0), i);
            due("step(0, " + i + ", 1)", x.step(0, i, 1), number[i]);
        }
        due("no such step", x.step(0, 6, 0), HIDDEN);
        due("no such step", x.step(0, -1, 0), HIDDEN);
        due("no such what", x.step(0, 0, 2), HIDDEN);
        due("no such what", x.step(0, 0, -1), HIDDEN);
        due("no such script", x.step(1, 0, 0), HIDDEN);
        due("no such script", x.step(-1, 0, 0), HIDDEN);
        due("run without a field", x.run(0, 0), HIDDEN);
        due("perform without a field", x.perform(0), NONE);
    }

    private static void promise49And50RunAndPerform() {
        BurstPeeler x = Check.withField(CHAIN);
        Check.script(x, "c5;c5;p");
        Check.script(x, "r;p;f1;x1;t1");
        Check.script(x, "t7");
        Check.script(x, "c100");
        due("the second can't be", x.run(0, 0), 1);
        due("known ahead of it", x.run(0, 1), 0);
        due("all can be", x.run(1, 0), NONE);
        due("known behind all", x.run(1, 1), 3);
        due("no such user", x.run(2, 0), 0);
        due("out of bounds", x.run(3, 0), 0);
        due("no such script", x.run(4, 0), HIDDEN);
        due("no such script", x.run(-1, 0), HIDDEN);
        due("no such what", x.run(0, 2), HIDDEN);
        due("no such what", x.run(0, -1), HIDDEN);
        due("a run changes nothing", x.count(3) + x.count(4) + x.most(0) + x.rule(2), 0);
        due("perform, all", x.perform(1), 5);
        due("five acts", x.count(4), 5);
        due("told", x.user(1, 4), 3);
        due("log: draw", x.log(1, 0), 6);
        due("log: draw, user", x.log(1, 1), 1);
        BurstPeeler y = Check.withField(CHAIN);
        y.draw(1, 1);
        due("the digit is the seed", x.copies(1), y.copies(1));
        due("perform, one", x.perform(0), 1);
        due("capture", x.rule(2), 5);
        due("perform, none", x.perform(2), 0);
        due("no such script", x.perform(4), NONE);
        due("no such script", x.perform(-1), NONE);
        due("no status", x.status(0) + x.status(1) + x.status(2) + x.status(3), 0);
    }

    private static void promise51Most() {
        BurstPeeler x = Check.withField("s n4f2;u p90g3a1;u a6b3;u p10a5;u t1a1;u");
        int[] want = {0, 0, 1, 0, 3, 2, 8, 0, 2, HIDDEN};
        for (int what = 0; what < 10; what++) {
            due("most(" + what + ")", x.most(what), want[what]);
        }
        due("most(-1)", x.most(-1), HIDDEN);
        x.tell(1);
        x.file(2, 1);
        x.file(2, 1);
        int[] then = {2, 0, 1, 0, 3, 2, 8, 2, 3};
        for (int what = 0; what < 9; what++) {
            due("most(" + what + ") then", x.most(what), then[what]);
        }
        BurstPeeler y = Check.withField("s n3;u p99g3a2;u p12a2;u p12a3");
        due("the fullest slot", y.most(1), 1);
        due("the busiest user", y.most(2), 2);
        due("the strongest user, the lowest of two", y.most(3), 1);
        due("ten parts", Check.withField("u;u;u;u;u;u;u;u;u;u").most(8), 10);
    }

    private static void promise52And53Image() {
        BurstPeeler x = Check.withField(STRONG);
        due("no image yet", x.back(), NONE);
        x.peel();
        x.file(1, 0);
        due("image", x.image(), 1);
        x.peel();
        x.capture(3);
        x.turn(2, 1);
        x.file(1, 0);
        due("acts go on", x.count(4), 6);
        due("back", x.back(), 1);
        due("no act can be undone", x.undo(), NONE);
        due("known", x.most(0), 1);
        due("how", x.user(0, 4), 2);
        due("capture", x.rule(2), 10);
        due("copies", x.copies(2), 3);
        due("shelves", x.most(7), 1);
        due("log", x.count(3), 2);
        due("log", x.log(0, 0), 7);
        x.tell(1);
        due("back once more", x.back(), 1);
        x.tell(1);
        due("another image", x.image(), 2);
        x.tell(2);
        due("back to it", x.back(), 2);
        due("status stays", x.status(3), 0);
        BurstPeeler shelves = Check.withField(CHAIN);
        shelves.tell(0);
        shelves.tell(1);
        shelves.file(2, 1);
        shelves.image();
        shelves.undo();
        shelves.file(2, 0);
        shelves.back();
        due("who lay there", shelves.shelf(2, 0), 1);
    }

    private static void promise54Count() {
        BurstPeeler x = Check.withField(CHAIN);
        Check.script(x, "p");
        Check.tape(x, "abc");
        x.tell(0);
        x.tell(1);
        x.image();
        x.back();
        x.tell(2);
        int[] want = {3, 1, 3, 3, 1};
        for (int what = 0; what < 5; what++) {
            due("count(" + what + ")", x.count(what), want[what]);
        }
        due("count(5)", x.count(5), HIDDEN);
        due("count(-1)", x.count(-1), HIDDEN);
    }

    private static void constants() {
        due("NONE", BurstPeeler.NONE, -1);
        due("HIDDEN", BurstPeeler.HIDDEN, -1000000);
    }

    public static void main(String[] args) {
        constants();
        promise1NewObject();
        promise2Feed();
        promise3End();
        promise4FaultOfFields();
        promise4FaultOfScripts();
        promise5Text();
        promise6Rule();
        promise7Weight();
        promise8User();
        promise9Copies();
        promise10Strength();
        promise11Din();
        promise12Margin();
        promise13Clear();
        promise14Slot();
        promise15Peel();
        promise16Round();
        promise17Tell();
        promise18Forget();
        promise19Turn();
        promise20Capture();
        promise21Draw();
        promise22Swap();
        promise23And24FileAndShelf();
        promise25Years();
        promise26Status();
        promise27Undo();
        promise28Log();
        promise29And30SolvedAndAhead();
        promise31Fewest();
        promise32Tight();
        promise33Touch();
        promise34Frame();
        promise35Stuck();
        promise36And37Slid();
        promise38Blame();
        promise39Senders();
        promise40And41LessAndKey();
        promise42More();
        promise43Jam();
        promise44To46Degrees();
        promise47Load();
        promise48Step();
        promise49And50RunAndPerform();
        promise51Most();
        promise52And53Image();
        promise54Count();
        Check.finish();
    }
}
