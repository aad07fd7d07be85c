/** Ways to states that several tests look at, told so that another object comes to the same one. */
final class Stories {
    /**
     * STRENGTHS 9, 1, 1, 1, 4 in two FRAMES of three SLOTS, CAPTURE 2: USER 0 is CAPTURED above 1, which is a SINGLE
     * then; 2 and 4 meet in SLOT 1.
     */
    static final String FIELD = "s n3f2c20;u p90a1b1;u a1b4;u a2;u t1a3;u p40a6;d k2q3;d k6";

    private Stories() {
    }

    /** No FIELD, but a SCRIPT, a TAPE and a STATUS. */
    static BurstPeeler empty() {
        BurstPeeler x = new BurstPeeler();
        Check.script(x, "p;r;t1;f0;x2;c5");
        Check.tape(x, "u a5");
        x.peel();
        return x;
    }

    /**
     * 0 is CAPTURED, 1 a SINGLE, 3 TOLD, each FILED; 2 and 4 are UNKNOWN and stuck by CAPTURE 99; an IMAGE lies
     * five ACTS from the start, eight ACTS are done, two were refused (STATUS 0 and 2).
     */
    static BurstPeeler busy() {
        BurstPeeler x = Check.withField(FIELD);
        Check.script(x, "p;r;t1;f0;x2;c5");
        Check.script(x, "c9999");
        Check.tape(x, "u a5");
        x.peel();
        x.peel();
        x.tell(3);
        x.file(1, 0);
        x.file(0, 1);
        x.image();
        x.file(2, 3);
        x.capture(99);
        x.turn(4, 2);
        x.tell(3);
        x.tell(9);
        return x;
    }

    /** The same, but each SHELF has its ten places taken. */
    static BurstPeeler full() {
        BurstPeeler x = busy();
        for (int i = 0; i < 9; i++) {
            x.file(0, 1);
            x.file(1, 0);
            x.file(2, 3);
        }
        return x;
    }

    /** Three USERS in a ring, no DEGREES, nothing done. */
    static BurstPeeler ring() {
        return Check.withField("s n3;u a3;u a6;u a5");
    }

    /** Four SCRIPTS and a good one on the TAPE. */
    static BurstPeeler fourScripts() {
        BurstPeeler x = Check.withField("s n3f2;u a3;u a6;u a5;u t1a1;u a1;d");
        for (int i = 0; i < 4; i++) {
            Check.script(x, "t" + i);
        }
        Check.tape(x, "p;r");
        return x;
    }

    /** FRAMES 0 .. 3 with three SLOTS each, a USER in each FRAME and one more in the first; no ACT, no COPY. */
    static BurstPeeler frames() {
        return Check.withField("s n3f4;u;u t1;u t2;u t3;u");
    }
}
