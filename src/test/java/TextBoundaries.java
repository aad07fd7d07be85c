/** Boundary cases of the TAPE, of FIELDS and of SCRIPTS: Terms 1, promises 1 to 5 and 48. */
final class TextBoundaries {
    private static final int NONE = BurstPeeler.NONE;
    private static final int HIDDEN = BurstPeeler.HIDDEN;
    private static final int FIELD = 0;
    private static final int SCRIPT = 1;

    private TextBoundaries() {
    }

    static void all() {
        clauses();
        itemsAndDigits();
        boundsOfRules();
        boundsOfUsers();
        boundsOfDegrees();
        scripts();
        blanks();
        faultAtTheFirstByte();
        faultAtTheLength();
        faultsByName();
        newObject();
        feed();
        end();
        fault();
        text();
        step();
    }

    private static void due(String call, long got, long want) {
        Check.due(call, got, want);
    }

    private static void good(int sort, String... texts) {
        for (String text : texts) {
            Check.faultIs(sort, text, NONE);
        }
    }

    private static void wrong(int sort, String text, int at) {
        Check.faultIs(sort, text, at);
    }

    /** The same CLAUSE or STEP some times, with ; between. */
    private static String times(int n, String one) {
        return String.join(";", java.util.Collections.nCopies(n, one));
    }

    // ---- Terms 1: a FIELD

    private static void clauses() {
        Document.terms("A FIELD is a TEXT: CLAUSES with ; between:");
        good(FIELD, "u", "u;u", "s;u;d");
        wrong(FIELD, "u,u", 1);
        wrong(FIELD, "uu", 1);
        wrong(FIELD, "u;;u", 2);
        wrong(FIELD, ";u", 0);
        wrong(FIELD, "u;", 2);
        Document.terms("s (its RULES; one at most),");
        good(FIELD, "u", "s;u", "u;s");
        wrong(FIELD, "s;s;u", 2);
        wrong(FIELD, "sn4;u;sn4", 6);
        Document.terms("u (a USER; 1 .. 10),");
        wrong(FIELD, "s;d", 3);
        for (int n = 1; n <= 10; n++) {
            due("users of " + n, Check.withField(times(n, "u")).count(0), n);
        }
        wrong(FIELD, times(11, "u"), 20);
        wrong(FIELD, "u;d;" + times(10, "ua1"), 4 + 9 * 4);
        Document.terms("d (a DEGREE; none to 6),");
        for (int n = 0; n <= 6; n++) {
            BurstPeeler x = Check.withField(n == 0 ? "u" : "u;" + times(n, "d"));
            due("weight of " + n + " degrees", x.weight(1), n);
        }
        wrong(FIELD, "u;" + times(7, "d"), 14);
        wrong(FIELD, "dk1;dk2;dk3;dk4;dk5;dk6;dk1;u", 24);
        Document.terms("in any order,");
        String[] orders = {"s n5;u a1;d k2", "s n5;d k2;u a1", "u a1;s n5;d k2", "u a1;d k2;s n5", "d k2;s n5;u a1",
            "d k2;u a1;s n5"};
        for (String text : orders) {
            BurstPeeler x = Check.withField(text);
            due(text, x.rule(0) * 100 + x.copies(0) * 10 + x.weight(2), 511);
        }
        BurstPeeler mixed = Check.withField("u p1;d;u p2;s;u p3;d");
        due("users as they stand", mixed.user(0, 0) * 100 + mixed.user(1, 0) * 10 + mixed.user(2, 0), 123);
    }

    private static void itemsAndDigits() {
        Document.terms("then ITEMS, none or more:");
        good(FIELD, "s;u;d", "sn3;up3;dk3", "sn2f2c1z1;up1g1t1a1b0;dk1q1", "sz1c1f2n2;ub1a1t0g1p1;dq1k1");
        wrong(FIELD, "s1;u", 1);
        wrong(FIELD, "un2", 1);
        wrong(FIELD, "dp1;u", 1);
        wrong(FIELD, "sk1;u", 1);
        Document.terms("a letter, each once at most in a CLAUSE,");
        good(FIELD, "up1;up1", "ug1;ug1;sn2f1", "dk1q1;dk1q1;u", "ua1b0;ua1b0");
        String[] clauses = {"snfcz", "upgtab", "dkq"};
        for (String clause : clauses) {
            String other = clause.charAt(0) == 'u' ? "" : ";u";
            for (int i = 1; i < clause.length(); i++) {
                char letter = clause.charAt(i);
                int value = letter == 'n' ? 2 : letter == 't' || letter == 'b' ? 0 : 1;
                String item = "" + letter + value;
                good(FIELD, clause.charAt(0) + item + other);
                wrong(FIELD, clause.charAt(0) + item + item + other, 3);
                wrong(FIELD, clause.charAt(0) + item + " " + letter, 4);
            }
        }
        wrong(FIELD, "up1g1t0a1b0p1", 11);
        wrong(FIELD, "sn2f1c0z0z0;u", 9);
        Document.terms("and a number (one to four digits):");
        wrong(FIELD, "up", 2);
        wrong(FIELD, "up;u", 2);
        wrong(FIELD, "upg1", 2);
        good(FIELD, "up1", "up01", "up001", "up0001");
        wrong(FIELD, "up00001", 6);
        due("four digits tell a number", Check.withField("ua0123").copies(0), 123);
        due("four digits tell a number", Check.withField("sn12;ua1234").copies(0), 1234);
    }

    /** One letter's bounds, on both sides, with as many digits as can be: good within, wrong at the last digit. */
    private static void bounds(String clause, char letter, int low, int high, String rest) {
        for (int value : new int[] {low, high}) {
            good(FIELD, clause + letter + value + rest);
            good(FIELD, clause + letter + String.format("%04d", value) + rest);
        }
        int at = clause.length() + 1;
        for (int value : new int[] {low - 1, high + 1, 9999}) {
            if (value >= 0) {
                wrong(FIELD, clause + letter + value + rest, at + String.valueOf(value).length() - 1);
                wrong(FIELD, clause + letter + String.format("%04d", value) + rest, at + 3);
            }
        }
    }

    private static void boundsOfRules() {
        Document.terms("of s: n SLOTS of a FRAME (2 .. 12; 8 without),");
        bounds("s", 'n', 2, 12, ";u");
        due("n2", Check.withField("sn2;u").rule(0), 2);
        due("n12", Check.withField("sn12;u").rule(0), 12);
        due("n without", Check.withField("sf2;u").rule(0), 8);
        due("s without", Check.withField("u").rule(0), 8);
        Document.terms("f FRAMES (1 .. 4; 1),");
        bounds("s", 'f', 1, 4, ";u");
        due("f4", Check.withField("sf4;u").rule(1), 4);
        due("f without", Check.withField("sn2;u").rule(1), 1);
        Document.terms("c CAPTURE (0 .. 99 tenths; 0),");
        bounds("s", 'c', 0, 99, ";u");
        due("c99", Check.withField("sc99;u").rule(2), 99);
        due("c0", Check.withField("sc0;u").rule(2), 0);
        due("c without", Check.withField("s;u").rule(2), 0);
        Document.terms("z NOISE (0 .. 99 tenths; 0);");
        bounds("s", 'z', 0, 99, ";u");
        due("z99", Check.withField("sz99;u").rule(3), 99);
        due("z without", Check.withField("s;u").rule(3), 0);
        due("z99 is 9.9", Check.withField("sz99;ua1").din(0, 0), Float.floatToIntBits(9.9f));
    }

    private static void boundsOfUsers() {
        Document.terms("of u: p POWER (1 .. 99 tenths; 10),");
        bounds("u", 'p', 1, 99, "");
        due("p1", Check.withField("up1").user(0, 0), 1);
        due("p99", Check.withField("up99").user(0, 0), 99);
        due("p without", Check.withField("u").user(0, 0), 10);
        Document.terms("g how FAR it is (1 .. 9; 1),");
        bounds("u", 'g', 1, 9, "");
        due("g9", Check.withField("ug9").user(0, 1), 9);
        due("g without", Check.withField("u").user(0, 1), 1);
        Document.terms("t its FRAME (0 .. 3; 0),");
        bounds("u", 't', 0, 3, ";sf4");
        due("t3", Check.withField("ut3;sf4").user(0, 2), 3);
        due("t without", Check.withField("u;sf4").user(0, 2), 0);
        Document.terms("a, b its COPIES in that FRAME, in the next one (bits: SLOT 0 lowest; 0 .. 4095; 0);");
        bounds("u", 'a', 0, 4095, ";sn12f2");
        bounds("u", 'b', 0, 4095, ";sn12f2");
        due("a1 is slot 0", Check.withField("ua1;sf2").copies(0), 1);
        due("b1 is slot 0 of the next", Check.withField("ub1;sf2").copies(0), 256);
        due("a128 is slot 7", Check.withField("ua128;sf2").copies(0), 128);
        due("all of both", Check.withField("sn12f4;ut2a4095b4095").copies(0), 0xffffffL << 24);
        due("a, b without", Check.withField("u;sf2").copies(0), 0);
    }

    private static void boundsOfDegrees() {
        Document.terms("of d: k how many COPIES (1 .. 6; 1),");
        bounds("d", 'k', 1, 6, ";u");
        due("k6", Check.withField("dk6;u").weight(6), 1);
        due("k without", Check.withField("dq5;u").weight(1), 5);
        Document.terms("q its WEIGHT (1 .. 99; 1).");
        bounds("d", 'q', 1, 99, ";u");
        due("q99", Check.withField("dq99;u").weight(1), 99);
        due("q without", Check.withField("dk3;u").weight(3), 1);
        Document.terms("Of DEGREES of like k WEIGHTS are added up.)");
        due("six like ones", Check.withField(times(6, "dk4q99") + ";u").weight(4), 594);
        BurstPeeler two = Check.withField("dk4q99;u;dk4q1;dk5q7");
        due("like ones", two.weight(4), 100);
        due("another one", two.weight(5), 7);
    }

    // ---- Terms 1: a SCRIPT

    private static void scripts() {
        Document.terms("SCRIPTS (4 at most) are TEXTS:");
        BurstPeeler four = Stories.fourScripts();
        due("four", four.count(1), 4);
        due("the fourth", four.step(3, 0, 1), 3);
        Unchanged.asked(Stories::fourScripts, "a fifth", x -> x.text(1), NONE);
        Document.terms("STEPS with ; between, 1 to 16:");
        wrong(SCRIPT, "", 0);
        for (int n = 1; n <= 16; n++) {
            BurstPeeler x = new BurstPeeler();
            due("steps", Check.script(x, times(n, "p")), 0);
            due("the last of " + n, x.step(0, n - 1, 0), 0);
            due("one more than " + n, x.step(0, n, 0), HIDDEN);
        }
        wrong(SCRIPT, times(17, "p"), 31);
        wrong(SCRIPT, "p,p", 1);
        wrong(SCRIPT, "p;;p", 2);
        wrong(SCRIPT, "p;", 2);
        wrong(SCRIPT, ";p", 0);
        Document.terms("p (STEP on), r (a ROUND), each alone;");
        good(SCRIPT, "p", "r", "p;r");
        for (String letter : new String[] {"p", "r"}) {
            wrong(SCRIPT, letter + "0", 1);
            wrong(SCRIPT, letter + "p", 1);
            wrong(SCRIPT, letter + " 1", 2);
        }
        Document.terms("t, f, x, each and a digit:");
        for (char letter : "tfx".toCharArray()) {
            for (int digit = 0; digit <= 9; digit++) {
                BurstPeeler x = new BurstPeeler();
                due("a digit", Check.script(x, "" + letter + digit), 0);
                due("that digit", x.step(0, 0, 1), digit);
            }
            wrong(SCRIPT, "" + letter, 1);
            wrong(SCRIPT, letter + ";p", 1);
            wrong(SCRIPT, letter + "10", 2);
            wrong(SCRIPT, letter + "1 0", 3);
        }
        Document.terms("TELL, FORGET, DRAW a USER anew (by that digit as the seed);");
        BurstPeeler x = Check.withField("s n6f2;u;u;u;u;u;u;u;u;u;ua1;d k3");
        Check.script(x, "t9;f9;x9");
        due("all three", x.perform(0), 3);
        due("told", x.log(2, 0) * 10 + x.log(2, 1), 29);
        due("forgotten", x.log(1, 0) * 10 + x.log(1, 1), 39);
        due("drawn", x.log(0, 0) * 10 + x.log(0, 1), 69);
        due("by 9 as the seed", x.copies(9), Lots.copies(9, 0, 12, 0, 0, 0, 1));
        Document.terms("c and a number (one to four digits): CAPTURE is set.");
        wrong(SCRIPT, "c", 1);
        wrong(SCRIPT, "c;p", 1);
        good(SCRIPT, "c0", "c00", "c000", "c0000", "c9", "c99", "c999", "c9999");
        wrong(SCRIPT, "c00000", 5);
        wrong(SCRIPT, "c99999", 5);
        BurstPeeler y = Check.withField("u");
        Check.script(y, "c0042");
        due("set", y.perform(0), 1);
        due("capture", y.rule(2), 42);
    }

    // ---- Terms 1: blanks and FAULTS

    /** Blanks ahead of and behind each sign but within numbers. */
    private static String spread(String text, String blank) {
        StringBuilder s = new StringBuilder(blank);
        for (int i = 0; i < text.length(); i++) {
            s.append(text.charAt(i));
            boolean isWithin = i + 1 < text.length() && Character.isDigit(text.charAt(i))
                && Character.isDigit(text.charAt(i + 1));
            s.append(isWithin ? "" : blank);
        }
        return s.toString();
    }

    private static void blanks() {
        Document.terms("Blanks (32) may stand between all signs of both, not within a number.");
        for (String blank : new String[] {" ", "   "}) {
            good(FIELD, spread("sn10f2;ua512b1p99;dk2q10", blank), spread("u", blank));
            good(SCRIPT, spread("p;r;t1;f2;x3;c1234", blank));
        }
        wrong(FIELD, "up1 0", 4);
        wrong(FIELD, "up 1  0", 6);
        wrong(SCRIPT, "c1 0", 3);
        wrong(SCRIPT, "c123  4", 6);
        for (char c : new char[] {1, 9, 10, 11, 12, 13, 31, 33, 95, 160, 255}) {
            wrong(FIELD, c + "u", 0);
            wrong(FIELD, "u" + c, 1);
            wrong(FIELD, "up" + c + "1", 2);
            wrong(SCRIPT, "p" + c, 1);
            wrong(SCRIPT, "t" + c + "1", 1);
        }
    }

    /** Behind a start that is good so far each byte but those named is the FAULT; those named lead on. */
    private static void onlyTheseLeadOn(int sort, String start, String these, int behindThese) {
        for (int sign = 1; sign < 256; sign++) {
            BurstPeeler x = new BurstPeeler();
            Check.tape(x, start + (char) sign);
            boolean leadsOn = these.indexOf(sign) >= 0;
            int length = start.length() + 1;
            int got = x.fault(sort);
            due("'" + start + "' and byte " + sign + " leads on", got == NONE || got >= length ? 1 : 0, leadsOn ? 1 : 0);
            if (!leadsOn) {
                due("'" + start + "' and byte " + sign, got, length - 1);
            } else if (behindThese != 0) {
                due("'" + start + "' and byte " + sign, got, behindThese);
            }
        }
    }

    private static void faultAtTheFirstByte() {
        Document.terms("FAULT: the first byte at which no such TEXT can go on");
        onlyTheseLeadOn(FIELD, "", " sud", 0);
        onlyTheseLeadOn(FIELD, "u", " ;pgtab", 0);
        onlyTheseLeadOn(FIELD, "s", " ;nfcz", 2);
        onlyTheseLeadOn(FIELD, "d", " ;kq", 2);
        onlyTheseLeadOn(FIELD, "u;", " sud", 0);
        onlyTheseLeadOn(FIELD, "s;u;", " ud", 0);
        onlyTheseLeadOn(FIELD, "ua", " 0123456789", 0);
        onlyTheseLeadOn(FIELD, "ua1", " ;pgtb0123456789", 0);
        onlyTheseLeadOn(FIELD, "ua1 ", " ;pgtb", 0);
        onlyTheseLeadOn(FIELD, "up1g1t0a1b0", " ;0123456789", 0);
        onlyTheseLeadOn(FIELD, times(10, "u") + ";", " sd", 0);
        onlyTheseLeadOn(FIELD, "u;" + times(6, "d") + ";", " su", 0);
        onlyTheseLeadOn(SCRIPT, "", " prtfxc", 0);
        onlyTheseLeadOn(SCRIPT, "p", " ;", 0);
        onlyTheseLeadOn(SCRIPT, "r", " ;", 0);
        onlyTheseLeadOn(SCRIPT, "t", " 0123456789", 0);
        onlyTheseLeadOn(SCRIPT, "f", " 0123456789", 0);
        onlyTheseLeadOn(SCRIPT, "x", " 0123456789", 0);
        onlyTheseLeadOn(SCRIPT, "t1", " ;", 0);
        onlyTheseLeadOn(SCRIPT, "c", " 0123456789", 0);
        onlyTheseLeadOn(SCRIPT, "c1", " ;0123456789", 0);
        onlyTheseLeadOn(SCRIPT, "c1234", " ;", 0);
        onlyTheseLeadOn(SCRIPT, "p;", " prtfxc", 0);
        onlyTheseLeadOn(SCRIPT, times(16, "p"), " ", 0);
        // Of two FAULTS the first, whatever the whole TEXT lacks.
        wrong(FIELD, "ut3;ub1;x", 8);
        wrong(FIELD, "up0;up0", 2);
        wrong(SCRIPT, "t;c", 1);
    }

    private static void faultAtTheLength() {
        Document.terms("(the length, if it ends too early,");
        wrong(FIELD, "", 0);
        wrong(FIELD, "  ", 2);
        wrong(FIELD, "u;", 2);
        wrong(FIELD, "u; ", 3);
        wrong(FIELD, "ua", 2);
        wrong(FIELD, "ua ", 3);
        wrong(SCRIPT, "", 0);
        wrong(SCRIPT, " ", 1);
        wrong(SCRIPT, "p;", 2);
        wrong(SCRIPT, "c ", 2);
        wrong(SCRIPT, "x", 1);
        Document.terms("without a USER,");
        wrong(FIELD, "s", 1);
        wrong(FIELD, "d", 1);
        wrong(FIELD, "s;d;d ", 6);
        good(FIELD, "s;d;d;u");
        Document.terms("with a USER of a FRAME that is not there,");
        for (int frames = 1; frames <= 4; frames++) {
            good(FIELD, "ut" + (frames - 1) + ";sf" + frames, "sf" + frames + ";u;ut" + (frames - 1));
            if (frames < 4) {
                wrong(FIELD, "ut" + frames + ";sf" + frames, 7);
                wrong(FIELD, "sf" + frames + ";u;ut" + frames + ";u ", 12);
            }
        }
        wrong(FIELD, "ut1", 3);
        Document.terms("or with a COPY in a SLOT or a FRAME that is not there):");
        for (int slots = 2; slots <= 12; slots++) {
            String rules = "sf2n" + slots + ";";
            int outside = 1 << slots;
            good(FIELD, rules + "ua" + (outside - 1), rules + "ub" + (outside - 1));
            if (slots < 12) {
                wrong(FIELD, rules + "ua" + outside, (rules + "ua" + outside).length());
                wrong(FIELD, rules + "ub" + outside, (rules + "ub" + outside).length());
                wrong(FIELD, rules + "u;ua2048;u", (rules + "u;ua2048;u").length());
            }
        }
        for (int frames = 1; frames <= 4; frames++) {
            String rules = "sf" + frames + ";";
            wrong(FIELD, rules + "ut" + (frames - 1) + "b1", 9);
            good(FIELD, rules + "ut" + (frames - 1) + "b0", rules + "ut" + (frames - 1) + "a1");
            if (frames > 1) {
                good(FIELD, rules + "ut" + (frames - 2) + "b1");
            }
        }
        wrong(FIELD, "ub1", 3);
        wrong(FIELD, "ua256 ", 6);
    }

    private static void faultsByName() {
        Document.terms("a number out of bounds is wrong at its last digit,");
        wrong(FIELD, "up100", 4);
        wrong(FIELD, "up100 ", 4);
        wrong(FIELD, "up100g1", 4);
        wrong(FIELD, "up9999", 5);
        wrong(FIELD, "up0", 2);
        wrong(FIELD, "up0000", 5);
        wrong(FIELD, "sn1", 2);
        wrong(FIELD, "sn 13;u", 4);
        Document.terms("a fifth digit itself, whatever stands ahead of it,");
        wrong(FIELD, "up00011", 6);
        wrong(FIELD, "up99999", 6);
        wrong(FIELD, "up00000", 6);
        wrong(FIELD, "up123456", 6);
        wrong(SCRIPT, "c12345", 5);
        wrong(SCRIPT, "c000000", 5);
        Document.terms("a letter that was there,");
        wrong(FIELD, "up1p", 3);
        wrong(FIELD, "up1g1p2", 5);
        wrong(FIELD, "sn2n3;u", 3);
        wrong(FIELD, "u;dq1k1q1", 7);
        Document.terms("a second s,");
        wrong(FIELD, "s;u;s", 4);
        wrong(FIELD, "s;u; s n4", 5);
        Document.terms("an eleventh u,");
        wrong(FIELD, times(10, "u") + "; u", 21);
        wrong(FIELD, "s;" + times(11, "u"), 22);
        Document.terms("a seventh d,");
        wrong(FIELD, "u;" + times(6, "d") + "; d", 15);
        wrong(FIELD, times(7, "d"), 12);
        Document.terms("the ; ahead of a 17th STEP.");
        wrong(SCRIPT, times(16, "t1") + ";t1", 47);
        wrong(SCRIPT, times(16, "p") + " ; p", 32);
        wrong(SCRIPT, times(16, "p") + ";", 31);
        Document.terms("(c of a SCRIPT has no bounds;");
        good(SCRIPT, "c0", "c99", "c100", "c9999", "c0000");
        Document.terms("what a STEP tells that can't be is no FAULT.");
        BurstPeeler x = Check.withField("u");
        for (String text : new String[] {"t9", "f0", "x0", "c0"}) {
            due("taken: " + text, Check.script(x, text) >= 0 ? 1 : 0, 1);
        }
        for (int script = 0; script < 4; script++) {
            due("none of it can be", x.run(script, 0), 0);
        }
        good(SCRIPT, "c9999;t9;x9");
    }

    // ---- promises

    private static void newObject() {
        Document.promise(1, "No FIELD.");
        BurstPeeler x = new BurstPeeler();
        for (int what = 0; what < 5; what++) {
            due("count(" + what + ")", x.count(what), 0);
            due("rule(" + what + ")", x.rule(what), NONE);
        }
        for (int what = 0; what < 4; what++) {
            due("status(" + what + ")", x.status(what), 0);
        }
        due("no image", x.image(), NONE);
        due("most", x.most(0), HIDDEN);
        // A wrong FIELD is none either, nor is one that was only looked at.
        Check.tape(x, "u;x");
        x.text(0);
        due("a wrong one", x.rule(0), NONE);
        Check.tape(x, "u;d");
        x.fault(0);
        due("looked at", x.rule(0), NONE);
        due("looked at", x.count(0), 0);
        due("looked at", x.sample(1), NONE);
    }

    private static BurstPeeler tapeOf(int bytes) {
        BurstPeeler x = new BurstPeeler();
        Check.tape(x, "u" + " ".repeat(bytes - 1));
        return x;
    }

    private static void feed() {
        Document.promise(2, "Twenty bytes more come to the TAPE");
        BurstPeeler x = new BurstPeeler();
        due("twenty", x.feed(-1, 0x01010101, 0x7f808182, 0x20202020, Integer.MIN_VALUE | 0x00ffffff), 20);
        due("twenty more", x.feed(-1, -1, -1, -1, -1), 40);
        Document.promise(2, "(of each number the highest first;");
        BurstPeeler order = new BurstPeeler();
        int[] words = Check.words("s n6 ;u p87 g3 a21;u");
        order.feed(words[0], words[1], words[2], words[3], words[4]);
        due("no fault", order.fault(0), NONE);
        due("two users", order.text(0), 2);
        due("told in that order", order.user(0, 0) * 1000 + order.user(0, 1) * 100 + order.copies(0), 87321);
        Document.promise(2, "bytes of 0 are left out)");
        for (int place = 0; place < 20; place++) {
            BurstPeeler hole = new BurstPeeler();
            int[] holed = {0x20202020, 0x20202020, 0x20202020, 0x20202020, 0x20202020};
            holed[place / 4] &= ~(255 << (24 - 8 * (place % 4)));
            due("19 bytes", hole.feed(holed[0], holed[1], holed[2], holed[3], holed[4]), 19);
            due("one byte", hole.feed(holed[0] ^ 0x20202020, holed[1] ^ 0x20202020, holed[2] ^ 0x20202020,
                holed[3] ^ 0x20202020, holed[4] ^ 0x20202020), 20);
        }
        due("nothing", new BurstPeeler().feed(0, 0, 0, 0, 0), 0);
        BurstPeeler apart = new BurstPeeler();
        apart.feed(0x75000000, 0x00700000, 0x00003900, 0x00000031, 0);
        due("what is left stands together", apart.fault(0), NONE);
        due("up91", apart.text(0) * 100 + apart.user(0, 0), 191);
        Document.promise(2, ": how many it has.");
        due("behind 240", tapeOf(240).count(2), 240);
        due("what feed answers", tapeOf(200).feed(0x20202020, 0, 0, 0, 0x20), 205);
        Document.promise(2, "NONE: more than 240.");
        due("220 and 20", tapeOf(220).feed(-1, -1, -1, -1, -1), 240);
        due("239 and 1", tapeOf(239).feed(0, 0, 0, 0, 1), 240);
        due("240 and none", tapeOf(240).feed(0, 0, 0, 0, 0), 240);
        due("236 and 4 of 20", tapeOf(236).feed(0x01000000, 0x00010000, 0x00000100, 1, 0), 240);
        for (int place = 0; place < 20; place++) {
            for (int sign : new int[] {1, 2, 128, 255}) {
                BurstPeeler full = tapeOf(240);
                int[] one = new int[5];
                one[place / 4] = sign << (24 - 8 * (place % 4));
                due("240 and byte " + sign + " at " + place, full.feed(one[0], one[1], one[2], one[3], one[4]), NONE);
                full.end(239);
                due("239 and byte " + sign + " at " + place, full.feed(one[0], one[1], one[2], one[3], one[4]), 240);
            }
        }
        int spaces = 0x20202020;
        Unchanged.asked(() -> tapeOf(240), "240 and 1", y -> y.feed(0x20000000, 0, 0, 0, 0), NONE);
        Unchanged.asked(() -> tapeOf(221), "221 and 20", y -> y.feed(spaces, spaces, spaces, spaces, spaces), NONE);
        Unchanged.asked(() -> tapeOf(237), "237 and 4", y -> y.feed(0x20, 0x20, 0x20, 0, 0x20), NONE);
        due("a field of 240 bytes", tapeOf(240).text(0), 1);
        due("its fault at the length", faultOfFull(), 240);
    }

    private static int faultOfFull() {
        BurstPeeler x = new BurstPeeler();
        Check.tape(x, " ".repeat(240));
        return x.fault(0);
    }

    private static void end() {
        Document.promise(3, "The TAPE has its first n bytes alone.");
        BurstPeeler x = new BurstPeeler();
        Check.tape(x, "u a1;u a2;x");
        Check.due("end(11), all", x.end(11), true);
        due("all", x.fault(0), 10);
        Check.due("end(9)", x.end(9), true);
        due("the first 9", x.fault(0), NONE);
        Check.due("end(3)", x.end(3), true);
        due("what is behind is gone", x.feed(0x37000000, 0, 0, 0, 0), 4);
        due("u a7", x.text(0) * 10 + x.copies(0), 17);
        Check.due("end(0) of nothing", x.end(0), true);
        Check.tape(x, "u");
        Check.due("end(0)", x.end(0), true);
        due("empty", x.count(2), 0);
        Document.promise(3, "False: n.");
        Unchanged.outside(Stories::busy, "end", 0, 4, (y, n) -> y.end(n) ? 1 : 0, 0);
        Unchanged.asked(BurstPeeler::new, "end(1) of nothing", y -> y.end(1) ? 1 : 0, 0);
        Unchanged.asked(BurstPeeler::new, "end(-1) of nothing", y -> y.end(-1) ? 1 : 0, 0);
        Unchanged.asked(() -> tapeOf(240), "end(241)", y -> y.end(241) ? 1 : 0, 0);
    }

    private static void fault() {
        Document.promise(4, "The FAULT of the TAPE as a FIELD (0), a SCRIPT (1).");
        Unchanged.asked(Stories::busy, "fault(1) of a field", x -> x.fault(1), 0);
        Unchanged.asked(Stories::fourScripts, "fault(0) of a script", x -> x.fault(0), 0);
        Document.promise(4, "NONE: none.");
        Unchanged.asked(Stories::busy, "fault(0) of a field", x -> x.fault(0), NONE);
        Unchanged.asked(Stories::fourScripts, "fault(1), though there are four", x -> x.fault(1), NONE);
        Document.promise(4, "-2: no such sort.");
        Unchanged.outside(Stories::busy, "fault", 0, 1, BurstPeeler::fault, -2);
        Unchanged.outside(BurstPeeler::new, "fault", 0, 1, BurstPeeler::fault, -2);
    }

    private static void text() {
        Document.promise(5, "The TAPE (empty then) is the FIELD (all that was of another one is gone but SCRIPTS, STATUS)");
        BurstPeeler x = Stories.full();
        x.image();
        due("another field", x.text(0), 1);
        due("empty tape", x.count(2), 0);
        for (int what : new int[] {3, 4}) {
            due("no log, no acts", x.count(what), 0);
        }
        due("capture", x.rule(2), 0);
        due("nobody is known", x.user(0, 4), 0);
        due("copies", x.copies(0), 5);
        due("no second user", x.copies(1), 0);
        due("no degrees", x.weight(2) + x.weight(6), 0);
        due("empty shelves", x.most(7), 0);
        due("empty shelves", x.shelf(0, 0) + x.shelf(1, 0) + x.shelf(2, 0), -3);
        due("no log", x.log(0, 0), HIDDEN);
        due("no image", x.back(), NONE);
        due("nothing to undo", x.undo(), NONE);
        due("scripts", x.count(1), 2);
        due("a script", x.step(0, 5, 1), 5);
        due("status", x.status(0) * 10 + x.status(2), 11);
        due("copies of all", x.most(6), 2);
        nothingStaysOfAnotherField();
        Document.promise(5, ": how many USERS;");
        BurstPeeler ten = new BurstPeeler();
        Check.tape(ten, times(10, "u"));
        due("ten", ten.text(0), 10);
        Check.tape(ten, "u");
        due("one", ten.text(0), 1);
        Document.promise(5, "a SCRIPT: its number.");
        for (int i = 0; i < 4; i++) {
            due("number", Check.script(ten, "p"), i);
            due("empty tape", ten.count(2), 0);
        }
        Document.promise(5, "NONE: a FAULT (the TAPE stays),");
        Unchanged.asked(Stories::busy, "text(1) of a field", y -> y.text(1), NONE);
        Unchanged.asked(Stories::fourScripts, "text(0) of a script", y -> y.text(0), NONE);
        Unchanged.asked(BurstPeeler::new, "text(0) of nothing", y -> y.text(0), NONE);
        Unchanged.asked(BurstPeeler::new, "text(1) of nothing", y -> y.text(1), NONE);
        Unchanged.asked(TextBoundaries::faulty, "text(0) of a wrong field", y -> y.text(0), NONE);
        Document.promise(5, "no such sort,");
        Unchanged.outside(Stories::busy, "text", 0, 1, BurstPeeler::text, NONE);
        Document.promise(5, "there are four SCRIPTS.");
        Unchanged.asked(Stories::fourScripts, "a fifth", y -> y.text(1), NONE);
        due("a field still can be", fieldBehindFour(), 1);
    }

    /** Strong and weak ones, CAPTURE and DEGREES of a FIELD that was looked at in all ways tell nothing of the next. */
    private static void nothingStaysOfAnotherField() {
        BurstPeeler x = Check.withField("s n3c10z2;u p90a1;u a1;u p3a2;" + times(6, "d k6q99"));
        x.solved(0);
        x.slot(0, 3);
        Check.tape(x, "s n3;u a1;u a1;" + times(6, "d k2"));
        for (int i = 0; i < 3; i++) {
            due("the tape again and again", x.fault(0), NONE);
        }
        due("two users", x.text(0), 2);
        due("nobody is clear by capture 0", x.solved(1), 0);
        due("no noise", x.din(0, 0), Float.floatToIntBits(1f));
        for (long seed = 0; seed < 9; seed++) {
            due("its own degrees", x.sample(seed), 2);
        }
        Check.tape(x, "s n3c10;u p5a1;u p90a1;d k4q3;d k1q2");
        x.text(0);
        due("the other one is clear", x.slot(0, 3), 2);
        for (long seed = 0; seed < 9; seed++) {
            due("its own degrees", x.sample(seed), new Lots(seed).nextDegree(0, 2, 0, 0, 3));
        }
        Check.tape(x, "s n3c10;u p90a1;u p5a1");
        x.text(0);
        due("by its own strengths", x.slot(0, 3), 1);
    }

    /** A TAPE that is a FIELD but for a COPY in a FRAME that is not there. */
    private static BurstPeeler faulty() {
        BurstPeeler x = Stories.busy();
        Check.tape(x, "u a1b1;u;d;s n4");
        return x;
    }

    private static int fieldBehindFour() {
        BurstPeeler x = Stories.fourScripts();
        Check.tape(x, "u");
        return x.text(0);
    }

    private static void step() {
        Document.promise(48, "A STEP of a SCRIPT: 0 what (0 p, 1 r, 2 t, 3 f, 4 x, 5 c), 1 its number (NONE: none).");
        BurstPeeler x = new BurstPeeler();
        Check.script(x, "p;r;t0;f9;x5;c0;c9999");
        int[] what = {0, 1, 2, 3, 4, 5, 5};
        int[] number = {NONE, NONE, 0, 9, 5, 0, 9999};
        for (int i = 0; i < what.length; i++) {
            due("what of " + i, x.step(0, i, 0), what[i]);
            due("number of " + i, x.step(0, i, 1), number[i]);
        }
        Document.promise(48, "HIDDEN: no such ones.");
        Unchanged.outside(Stories::busy, "step, script", 0, 1, (y, script) -> y.step(script, 0, 0), HIDDEN);
        Unchanged.outside(Stories::busy, "step, i", 0, 5, (y, i) -> y.step(0, i, 0), HIDDEN);
        Unchanged.outside(Stories::busy, "step, what", 0, 1, (y, w) -> y.step(0, 0, w), HIDDEN);
        Unchanged.asked(Stories::busy, "the other script's length counts", y -> y.step(1, 1, 0), HIDDEN);
        Unchanged.asked(BurstPeeler::new, "no script", y -> y.step(0, 0, 0), HIDDEN);
    }
}
