import java.util.Arrays;
import java.util.NoSuchElementException;

/**
 * Bursts sent at random in copies, and how they are understood one behind the other.
 * The words in capitals are those of the document, ../shared/DOC.md.
 */
public final class BurstPeeler {
    public static final int NONE = -1;
    public static final int HIDDEN = -1000000;

    private static final int MOST_USERS = 10;
    private static final int MOST_SETS = 1 << MOST_USERS;
    private static final int MOST_SLOTS = 48;
    private static final int MOST_DEGREES = 6;
    private static final int GREATEST_DEGREE = 6;
    private static final int MOST_CAPTURE = 99;
    private static final int MOST_SCRIPTS = 4;
    private static final int MOST_STEPS = 16;
    private static final int TAPE_ROOM = 240;
    private static final int SHELVES = 3;
    private static final int PLACES = 10;
    private static final int REFUSALS = 4;

    private static final int STEP = 0;
    private static final int ROUND = 1;
    private static final int TELL = 2;
    private static final int FORGET = 3;
    private static final int TURN = 4;
    private static final int CAPTURE = 5;
    private static final int DRAW = 6;
    private static final int FILE = 7;
    private static final int SWAP = 8;

    private static final int UNKNOWN = 0;
    private static final int SINGLE = 1;
    private static final int CAPTURED = 2;
    private static final int TOLD = 3;

    private static final int NOT_THERE = 0;
    private static final int OUT_OF_BOUNDS = 1;
    private static final int NOTHING_TO_DO = 2;
    private static final int WRONG_SHELF = 3;

    private final Tape tape = new Tape();
    private final Field draft = new Field();
    private final Field field = new Field();
    private final Script draftScript = new Script();
    private final Script[] scripts = new Script[MOST_SCRIPTS];
    private final State now = new State();
    private final State trial = new State();
    private final State imageState = new State();
    private final Journal journal = new Journal();
    private final Journal imageJournal = new Journal();
    private final History history = new History();
    private final int[] refused = new int[REFUSALS];
    private final Dice dice = new Dice();
    private final Peeler peeler = new Peeler(field);
    private final Hand hand = new Hand(field, peeler);
    private final Outlook outlook = new Outlook(field, peeler);
    private final Odds odds = new Odds(field);
    private int scriptCount;
    private boolean hasImage;

    public BurstPeeler() {
        for (int i = 0; i < scripts.length; i++) {
            scripts[i] = new Script();
        }
    }

    // ---- the TAPE and what is read from it

    public int feed(int a, int b, int c, int d, int e) {
        int more = Tape.signsIn(a) + Tape.signsIn(b) + Tape.signsIn(c) + Tape.signsIn(d) + Tape.signsIn(e);
        if (tape.length + more > TAPE_ROOM) {
            return NONE;
        }
        tape.add(a);
        tape.add(b);
        tape.add(c);
        tape.add(d);
        tape.add(e);
        return tape.length;
    }

    public boolean end(int n) {
        if (n < 0 || n > tape.length) {
            return false;
        }
        tape.length = n;
        return true;
    }

    public int fault(int sort) {
        if (sort == 0) {
            return draft.readFrom(tape);
        }
        return sort == 1 ? draftScript.readFrom(tape) : -2;
    }

    public int text(int sort) {
        if (sort == 0) {
            return takeField();
        }
        return sort == 1 ? takeScript() : NONE;
    }

    private int takeField() {
        if (draft.readFrom(tape) != NONE) {
            return NONE;
        }
        field.readFrom(tape);
        tape.length = 0;
        now.begin(field);
        peeler.begin();
        journal.length = 0;
        history.kept = 0;
        hasImage = false;
        return field.users;
    }

    private int takeScript() {
        if (scriptCount >= MOST_SCRIPTS || draftScript.readFrom(tape) != NONE) {
            return NONE;
        }
        scripts[scriptCount].readFrom(tape);
        tape.length = 0;
        scriptCount++;
        return scriptCount - 1;
    }

    // ---- what there is

    private boolean noField() {
        return field.users == 0;
    }

    private boolean noUser(int user) {
        return user < 0 || user >= field.users;
    }

    private boolean noSlot(int slot) {
        return slot < 0 || slot >= field.allSlots();
    }

    private boolean noFrame(int frame) {
        return noField() || frame < 0 || frame >= field.frames;
    }

    private boolean noScript(int script) {
        return script < 0 || script >= scriptCount;
    }

    private boolean noDegrees() {
        return field.allWeights == 0;
    }

    public int rule(int what) {
        if (noField()) {
            return NONE;
        }
        switch (what) {
            case 0: return field.slots;
            case 1: return field.frames;
            case 2: return now.capture;
            case 3: return field.noise;
            case 4: return field.allSlots();
            default: return NONE;
        }
    }

    public int weight(int k) {
        return noField() || k < 1 || k > GREATEST_DEGREE ? NONE : field.weights[k];
    }

    public int user(int user, int what) throws NoSuchElementException {
        if (noUser(user) || what < 0 || what > 5) {
            throw new NoSuchElementException();
        }
        switch (what) {
            case 0: return field.power[user];
            case 1: return field.far[user];
            case 2: return field.home[user];
            case 3: return Long.bitCount(now.copies[user]);
            case 4: return now.way[user];
            default:
                peeler.lookAt(now);
                return outlook.haste(user);
        }
    }

    public long copies(int user) {
        return noUser(user) ? 0L : now.copies[user];
    }

    public int strength(int user) {
        return noUser(user) ? NONE : singleBits(peeler.strengths[user]);
    }

    /** Whether the questions about one COPY have an answer: it is there, and its USER is UNKNOWN. */
    private boolean isOpenCopy(int user, int slot) {
        return !noUser(user) && !noSlot(slot) && now.hasCopy(user, slot) && now.way[user] == UNKNOWN;
    }

    public int din(int user, int slot) {
        if (!isOpenCopy(user, slot)) {
            return NONE;
        }
        peeler.lookAt(now);
        return singleBits(peeler.dinFor(user, slot));
    }

    public int margin(int user, int slot) {
        if (!isOpenCopy(user, slot)) {
            return NONE;
        }
        peeler.lookAt(now);
        return singleBits(peeler.marginOf(user, slot));
    }

    public int clear(int user, int slot) {
        if (!isOpenCopy(user, slot)) {
            return NONE;
        }
        peeler.lookAt(now);
        return peeler.clearIn(slot, peeler.unknown) >> user & 1;
    }

    public int slot(int slot, int what) {
        if (noField() || noSlot(slot)) {
            return HIDDEN;
        }
        peeler.lookAt(now);
        int crowd = peeler.occupants[slot] & peeler.unknown;
        switch (what) {
            case 0: return Integer.bitCount(peeler.occupants[slot]);
            case 1: return Integer.bitCount(crowd);
            case 2: return crowd;
            case 3: return peeler.clearIn(slot, peeler.unknown);
            default: return HIDDEN;
        }
    }

    // ---- ACTS

    /** Does an ACT if it can be done: its answer (0 or more), else -1 less the number of its refusal. */
    private int attempt(int sort, int first, int second, long seed) {
        int refusal = hand.refusalOf(now, sort, first, second);
        if (refusal != NONE) {
            return -1 - refusal;
        }
        history.keep(now);
        int answer = hand.carryOut(now, sort, first, second, seed);
        journal.note(sort, Hand.loggedUser(sort, first, second, answer), now.knownCount());
        return answer;
    }

    private int act(int sort, int first, int second, long seed) {
        int answer = attempt(sort, first, second, seed);
        if (answer >= 0) {
            return answer;
        }
        int refusal = -1 - answer;
        if (refusal < REFUSALS) {
            refused[refusal]++;
        }
        return NONE;
    }

    public int peel() {
        return act(STEP, NONE, NONE, 0L);
    }

    public int round() {
        return act(ROUND, NONE, NONE, 0L);
    }

    public int tell(int user) {
        return act(TELL, user, NONE, 0L);
    }

    public int forget(int user) {
        return act(FORGET, user, NONE, 0L);
    }

    public int turn(int user, int slot) {
        return act(TURN, user, slot, 0L);
    }

    public int capture(int c) {
        return act(CAPTURE, c, NONE, 0L);
    }

    public int draw(int user, long seed) {
        return act(DRAW, user, NONE, seed);
    }

    public int swap(int user, int other) {
        return act(SWAP, user, other, 0L);
    }

    public int file(int shelf, int user) {
        return act(FILE, shelf, user, 0L);
    }

    public int shelf(int shelf, int place) {
        if (shelf < 0 || shelf >= SHELVES || place < 0 || place >= now.filed[shelf]) {
            return NONE;
        }
        return now.shelved[shelf * PLACES + place];
    }

    public int years(int n, long seed) {
        if (noField() || n < 1 || n > 40) {
            return NONE;
        }
        dice.begin(seed);
        for (int i = 0; i < n; i++) {
            liveOneYear();
        }
        return now.knownCount();
    }

    private void liveOneYear() {
        int lot = dice.cast(8);
        if (lot < 2) {
            attempt(STEP, NONE, NONE, 0L);
        } else if (lot == 2) {
            attempt(ROUND, NONE, NONE, 0L);
        } else if (lot == 7) {
            attempt(CAPTURE, dice.cast(30), NONE, 0L);
        } else {
            int user = dice.cast(field.users);
            if (lot < 5) {
                attempt(lot == 3 ? TELL : FORGET, user, NONE, 0L);
            } else {
                int first = field.reachFrom(user);
                attempt(TURN, user, first + dice.cast(field.reachTo(user) - first), 0L);
            }
        }
    }

    public int status(int what) {
        return what < 0 || what >= REFUSALS ? NONE : refused[what];
    }

    public int undo() {
        if (history.kept == 0) {
            return NONE;
        }
        history.giveBack(now);
        journal.length--;
        return history.kept;
    }

    public int log(int i, int what) {
        if (i < 0 || i >= journal.seen() || what < 0 || what > 2) {
            return HIDDEN;
        }
        return journal.entry(i, what);
    }

    // ---- what would come

    public int solved(int what) {
        if (noField() || what < 0 || what > 2) {
            return NONE;
        }
        peeler.lookAt(now);
        if (what == 2) {
            return outlook.roundsTillStuck();
        }
        int known = field.everyone() & ~peeler.stuckOf(peeler.unknown);
        return what == 0 ? Integer.bitCount(known) : known;
    }

    public int ahead(int n) {
        if (noField() || n < 0 || n > 20) {
            return NONE;
        }
        peeler.lookAt(now);
        return field.everyone() & ~outlook.unknownBehind(n);
    }

    public int fewest(int way, int what) {
        if (noField() || way < 0 || way > 1 || what < 0 || what > 1) {
            return NONE;
        }
        // SILENT or TOLD, a USER is no DIN for others: both ways have one answer.
        peeler.lookAt(now);
        int set = outlook.fewestHelpers();
        return what == 0 ? Integer.bitCount(set) : set;
    }

    public int tight() {
        if (noField()) {
            return NONE;
        }
        peeler.lookAt(now);
        return outlook.greatestCapture();
    }

    public int touch(int user, int other) {
        if (noUser(user) || noUser(other) || user == other) {
            return NONE;
        }
        if (now.way[user] != UNKNOWN || now.way[other] != UNKNOWN) {
            return NONE;
        }
        return Long.bitCount(now.copies[user] & now.copies[other]);
    }

    public int frame(int frame, int what) {
        if (noFrame(frame) || what < 0 || what > 4) {
            return NONE;
        }
        peeler.lookAt(now);
        int members = field.membersOf(frame);
        switch (what) {
            case 0: return Integer.bitCount(members);
            case 1: return Integer.bitCount(members & ~peeler.unknown);
            case 2: return outlook.copiesIn(frame);
            case 3: return outlook.clearSlotsIn(frame);
            default: return Integer.bitCount(members & peeler.stuckOf(peeler.unknown));
        }
    }

    public int stuck(int what) {
        if (noField() || what < 0 || what > 3) {
            return NONE;
        }
        peeler.lookAt(now);
        switch (what) {
            case 0: return Integer.bitCount(outlook.leastStuckSet());
            case 1: return outlook.leastStuckSet();
            case 2: return outlook.stuckSets();
            // What SOLVED leaves is STUCK, and holds every other STUCK set.
            default: return peeler.stuckOf(peeler.unknown);
        }
    }

    public int slid(int w) {
        if (noField() || w < 1 || w > field.frames) {
            return NONE;
        }
        peeler.lookAt(now);
        return field.everyone() & ~outlook.unknownBehindSlide(w);
    }

    public int slidAt(int user, int w) {
        if (noUser(user) || w < 1 || w > field.frames) {
            return NONE;
        }
        if (now.way[user] != UNKNOWN) {
            return -2;
        }
        peeler.lookAt(now);
        return outlook.placeOnSlide(user, w);
    }

    public int blame(int user) {
        if (noUser(user) || now.way[user] != UNKNOWN) {
            return NONE;
        }
        peeler.lookAt(now);
        return outlook.helpersOf(user);
    }

    public int senders(int k) {
        if (noField() || k < 0 || k > 24) {
            return NONE;
        }
        int found = 0;
        for (int user = 0; user < field.users; user++) {
            found += Long.bitCount(now.copies[user]) == k ? 1 : 0;
        }
        return found;
    }

    public int less(int what) {
        return bestHelper(what, 0);
    }

    public int key(int what) {
        return bestHelper(what, 1);
    }

    /** LESS and KEY name one USER: without COPIES or TOLD, it leaves the others the same. */
    private int bestHelper(int what, int itself) {
        if (noField() || what < 0 || what > 1) {
            return HIDDEN;
        }
        peeler.lookAt(now);
        int user = outlook.helperOfMost();
        if (what == 0) {
            return user;
        }
        return user == NONE ? 0 : outlook.othersKnownWithout(user) + itself;
    }

    public int more(int user, int what) {
        if (noUser(user) || what < 0 || what > 1) {
            return HIDDEN;
        }
        peeler.lookAt(now);
        int slot = outlook.bestNewSlot(user);
        if (what == 0) {
            return slot;
        }
        return slot == NONE ? 0 : outlook.knownWithCopy(user, slot);
    }

    public int jam(int user, int frame, int chance) {
        if (noUser(user) || noFrame(frame) || chance < 0 || chance > 100) {
            return NONE;
        }
        peeler.lookAt(now);
        return outlook.partsKnown(user, frame, chance);
    }

    // ---- DEGREES

    public long share(int m, int l) {
        if (noDegrees() || m < 1 || m > 60 || l < 0 || l > 40) {
            return NONE;
        }
        return doubleBits(odds.shareOf(m, l));
    }

    public int limit() {
        if (noDegrees()) {
            return NONE;
        }
        for (int m = 60; m >= 1; m--) {
            if (odds.shareOf(m, 40) < 0.001) {
                return m;
            }
        }
        return NONE;
    }

    public int sample(long seed) {
        if (noDegrees()) {
            return NONE;
        }
        dice.begin(seed);
        return dice.castDegree(field);
    }

    public int load(int c) {
        int slots = field.allSlots();
        if (noField() || slots == 0 || c < 0 || c > 999) {
            return NONE;
        }
        return c * field.users / slots;
    }

    // ---- SCRIPTS

    public int step(int script, int i, int what) {
        if (noScript(script) || i < 0 || i >= scripts[script].length || what < 0 || what > 1) {
            return HIDDEN;
        }
        return what == 0 ? scripts[script].kinds[i] : scripts[script].numbers[i];
    }

    public int run(int script, int what) {
        if (noScript(script) || noField() || what < 0 || what > 1) {
            return HIDDEN;
        }
        trial.takeFrom(now);
        int done = tryOut(scripts[script]);
        if (what == 1) {
            return trial.knownCount();
        }
        return done == scripts[script].length ? NONE : done;
    }

    private int tryOut(Script script) {
        for (int i = 0; i < script.length; i++) {
            int sort = script.sortOf(i);
            int number = script.numbers[i];
            if (hand.refusalOf(trial, sort, number, NONE) != NONE) {
                return i;
            }
            hand.carryOut(trial, sort, number, NONE, number);
        }
        return script.length;
    }

    public int perform(int script) {
        if (noScript(script) || noField()) {
            return NONE;
        }
        Script told = scripts[script];
        for (int i = 0; i < told.length; i++) {
            if (attempt(told.sortOf(i), told.numbers[i], NONE, told.numbers[i]) < 0) {
                return i;
            }
        }
        return told.length;
    }

    // ---- sums, images

    public int most(int what) {
        if (noField()) {
            return HIDDEN;
        }
        peeler.lookAt(now);
        switch (what) {
            case 0: return field.everyone() & ~peeler.unknown;
            case 1: return outlook.fullestSlot();
            case 2: return outlook.busiestUser(now);
            case 3: return outlook.strongestUser();
            case 4: return outlook.slotsWith(0);
            case 5: return outlook.slotsWith(1);
            case 6: return now.copyCount();
            case 7: return now.filed[0] + now.filed[1] + now.filed[2];
            case 8: return outlook.partsOfUnknown();
            default: return HIDDEN;
        }
    }

    public int image() {
        if (noField()) {
            return NONE;
        }
        imageState.takeFrom(now);
        imageJournal.takeFrom(journal);
        hasImage = true;
        return now.knownCount();
    }

    public int back() {
        if (!hasImage) {
            return NONE;
        }
        now.takeFrom(imageState);
        journal.takeFrom(imageJournal);
        history.kept = 0;
        return now.knownCount();
    }

    public int count(int what) {
        switch (what) {
            case 0: return field.users;
            case 1: return scriptCount;
            case 2: return tape.length;
            case 3: return journal.seen();
            case 4: return history.kept;
            default: return HIDDEN;
        }
    }

    // ---- numbers as bits (no library call tells them: rule 4)

    private static int singleBits(float value) {
        if (value == 0f) {
            return 0;
        }
        float rest = value < 0f ? -value : value;
        int exponent = 127;
        for (int i = 0; i < 300 && rest >= 2f; i++) {
            rest = rest / 2f;
            exponent++;
        }
        for (int i = 0; i < 300 && rest < 1f; i++) {
            rest = rest * 2f;
            exponent--;
        }
        int bits = exponent << 23 | (int) ((rest - 1f) * 8388608f);
        return value < 0f ? bits | 1 << 31 : bits;
    }

    /** For SHARES, which are none below 0 and none above 1. */
    private static long doubleBits(double value) {
        if (value <= 0.0) {
            return 0L;
        }
        double rest = value;
        long exponent = 1023L;
        for (int i = 0; i < 1100 && rest < 1.0; i++) {
            rest = rest * 2.0;
            exponent--;
        }
        return exponent << 52 | (long) ((rest - 1.0) * 4503599627370496.0);
    }

    /** The bytes that were fed, and where reading them stands. */
    private static final class Tape {
        private static final char END = (char) 0;
        private static final int MOST_DIGITS = 4;

        final char[] signs = new char[TAPE_ROOM];
        int length;
        int at;
        int number;

        static int signsIn(int word) {
            int found = 0;
            for (int shift = 24; shift >= 0; shift -= 8) {
                found += (word >>> shift & 255) != 0 ? 1 : 0;
            }
            return found;
        }

        void add(int word) {
            for (int shift = 24; shift >= 0; shift -= 8) {
                int sign = word >>> shift & 255;
                if (sign != 0 && length < TAPE_ROOM) {
                    signs[length] = (char) sign;
                    length++;
                }
            }
        }

        /** The sign behind any blanks; END at the end (no byte of a TAPE is 0). */
        char nextSign() {
            while (at < length && signs[at] == ' ') {
                at++;
            }
            return at < length ? signs[at] : END;
        }

        private boolean isDigitHere() {
            return at < length && signs[at] >= '0' && signs[at] <= '9';
        }

        /** False leaves the TAPE at the FAULT. */
        boolean readNumber(int low, int high) {
            nextSign();
            if (!isDigitHere()) {
                return false;
            }
            number = 0;
            for (int digits = 0; digits <= MOST_DIGITS && isDigitHere(); digits++) {
                if (digits == MOST_DIGITS) {
                    return false;
                }
                number = number * 10 + (signs[at] - '0');
                at++;
            }
            if (number < low || number > high) {
                at--;
                return false;
            }
            return true;
        }

        boolean readDigit() {
            nextSign();
            if (!isDigitHere()) {
                return false;
            }
            number = signs[at] - '0';
            at++;
            return true;
        }
    }

    /** A FIELD as its TEXT tells it; without USERS there is none. */
    private static final class Field {
        private static final String RULE_LETTERS = "nfcz";
        private static final int[] RULE_LOW = {2, 1, 0, 0};
        private static final int[] RULE_HIGH = {12, 4, 99, 99};
        private static final int[] RULE_USUAL = {8, 1, 0, 0};
        private static final String USER_LETTERS = "pgtab";
        private static final int[] USER_LOW = {1, 1, 0, 0, 0};
        private static final int[] USER_HIGH = {99, 9, 3, 4095, 4095};
        private static final int[] USER_USUAL = {10, 1, 0, 0, 0};
        private static final String DEGREE_LETTERS = "kq";
        private static final int[] DEGREE_LOW = {1, 1};
        private static final int[] DEGREE_HIGH = {6, 99};
        private static final int[] DEGREE_USUAL = {1, 1};

        final int[] items = new int[5];
        final int[] power = new int[MOST_USERS];
        final int[] far = new int[MOST_USERS];
        final int[] home = new int[MOST_USERS];
        final int[] firstCopies = new int[MOST_USERS];
        final int[] nextCopies = new int[MOST_USERS];
        final int[] weights = new int[GREATEST_DEGREE + 1];
        int slots;
        int frames;
        int capture;
        int noise;
        int users;
        int degrees;
        int allWeights;
        boolean ruled;

        int allSlots() {
            return slots * frames;
        }

        int everyone() {
            return (1 << users) - 1;
        }

        int reachFrom(int user) {
            return home[user] * slots;
        }

        /** Behind the last SLOT in which the USER may have a COPY. */
        int reachTo(int user) {
            int last = home[user] + 2;
            return (last < frames ? last : frames) * slots;
        }

        int membersOf(int frame) {
            int members = 0;
            for (int user = 0; user < users; user++) {
                members |= home[user] == frame ? 1 << user : 0;
            }
            return members;
        }

        /** The FAULT, or NONE: only then is it a FIELD. */
        int readFrom(Tape tape) {
            begin();
            tape.at = 0;
            for (int clause = 0; clause <= TAPE_ROOM; clause++) {
                if (!readClause(tape)) {
                    return tape.at;
                }
                if (tape.nextSign() == Tape.END) {
                    return fitsTogether() ? NONE : tape.length;
                }
                tape.at++;
            }
            return tape.at;
        }

        private void begin() {
            keepRules(RULE_USUAL);
            users = 0;
            degrees = 0;
            allWeights = 0;
            ruled = false;
            Arrays.fill(weights, 0);
        }

        /** False leaves the TAPE at the FAULT; true at a ; or at the end. */
        private boolean readClause(Tape tape) {
            char sign = tape.nextSign();
            if (sign == 's' && !ruled) {
                if (!readItems(tape, RULE_LETTERS, RULE_LOW, RULE_HIGH, RULE_USUAL)) {
                    return false;
                }
                keepRules(items);
                ruled = true;
            } else if (sign == 'u' && users < MOST_USERS) {
                if (!readItems(tape, USER_LETTERS, USER_LOW, USER_HIGH, USER_USUAL)) {
                    return false;
                }
                keepUser();
            } else if (sign == 'd' && degrees < MOST_DEGREES) {
                if (!readItems(tape, DEGREE_LETTERS, DEGREE_LOW, DEGREE_HIGH, DEGREE_USUAL)) {
                    return false;
                }
                keepDegree();
            } else {
                return false;
            }
            return true;
        }

        private boolean readItems(Tape tape, String letters, int[] low, int[] high, int[] usual) {
            System.arraycopy(usual, 0, items, 0, usual.length);
            tape.at++;
            int had = 0;
            for (int i = 0; i <= letters.length(); i++) {
                char sign = tape.nextSign();
                if (sign == Tape.END || sign == ';') {
                    return true;
                }
                int item = letters.indexOf(sign);
                if (item < 0 || (had >> item & 1) != 0) {
                    return false;
                }
                tape.at++;
                if (!tape.readNumber(low[item], high[item])) {
                    return false;
                }
                items[item] = tape.number;
                had |= 1 << item;
            }
            return false;
        }

        private void keepRules(int[] told) {
            slots = told[0];
            frames = told[1];
            capture = told[2];
            noise = told[3];
        }

        private void keepUser() {
            power[users] = items[0];
            far[users] = items[1];
            home[users] = items[2];
            firstCopies[users] = items[3];
            nextCopies[users] = items[4];
            users++;
        }

        private void keepDegree() {
            weights[items[0]] += items[1];
            allWeights += items[1];
            degrees++;
        }

        /** What only the whole TEXT can tell, as the RULES may stand behind the USERS. */
        private boolean fitsTogether() {
            for (int user = 0; user < users; user++) {
                boolean hasNext = home[user] + 1 < frames;
                if (home[user] >= frames || firstCopies[user] >> slots != 0) {
                    return false;
                }
                if (hasNext ? nextCopies[user] >> slots != 0 : nextCopies[user] != 0) {
                    return false;
                }
            }
            return users > 0;
        }
    }

    /** The STEPS of a SCRIPT. */
    private static final class Script {
        private static final String LETTERS = "prtfxc";
        private static final int[] SORTS = {STEP, ROUND, TELL, FORGET, DRAW, CAPTURE};
        private static final int CAPTURE_LETTER = 5;

        final int[] kinds = new int[MOST_STEPS];
        final int[] numbers = new int[MOST_STEPS];
        int length;

        int sortOf(int i) {
            return SORTS[kinds[i]];
        }

        /** The FAULT, or NONE: only then is it a SCRIPT. */
        int readFrom(Tape tape) {
            length = 0;
            tape.at = 0;
            for (int i = 0; i < MOST_STEPS; i++) {
                if (!readStep(tape)) {
                    return tape.at;
                }
                char sign = tape.nextSign();
                if (sign == Tape.END) {
                    return NONE;
                }
                if (sign != ';' || length == MOST_STEPS) {
                    return tape.at;
                }
                tape.at++;
            }
            return tape.at;
        }

        private boolean readStep(Tape tape) {
            char sign = tape.nextSign();
            int kind = LETTERS.indexOf(sign);
            if (kind < 0) {
                return false;
            }
            tape.at++;
            tape.number = NONE;
            if (kind == CAPTURE_LETTER) {
                if (!tape.readNumber(0, 9999)) {
                    return false;
                }
            } else if (kind >= 2 && !tape.readDigit()) {
                return false;
            }
            kinds[length] = kind;
            numbers[length] = tape.number;
            length++;
            return true;
        }
    }

    /** All that ACTS change, but for the LOG. */
    private static final class State {
        final int[] way = new int[MOST_USERS];
        final long[] copies = new long[MOST_USERS];
        final int[] shelved = new int[SHELVES * PLACES];
        final int[] filed = new int[SHELVES];
        int capture;

        void begin(Field field) {
            Arrays.fill(way, UNKNOWN);
            Arrays.fill(copies, 0L);
            Arrays.fill(filed, 0);
            capture = field.capture;
            for (int user = 0; user < field.users; user++) {
                long both = field.firstCopies[user] | (long) field.nextCopies[user] << field.slots;
                copies[user] = both << field.reachFrom(user);
            }
        }

        void takeFrom(State other) {
            System.arraycopy(other.way, 0, way, 0, way.length);
            System.arraycopy(other.copies, 0, copies, 0, copies.length);
            System.arraycopy(other.shelved, 0, shelved, 0, shelved.length);
            System.arraycopy(other.filed, 0, filed, 0, filed.length);
            capture = other.capture;
        }

        boolean hasCopy(int user, int slot) {
            return (copies[user] >> slot & 1L) != 0L;
        }

        int knownCount() {
            int found = 0;
            for (int user = 0; user < way.length; user++) {
                found += way[user] != UNKNOWN ? 1 : 0;
            }
            return found;
        }

        int copyCount() {
            int found = 0;
            for (int user = 0; user < copies.length; user++) {
                found += Long.bitCount(copies[user]);
            }
            return found;
        }
    }

    /** The LOG: more is kept than can be seen, so that what is UNDONE brings old entries back to sight. */
    private static final class Journal {
        private static final int SEEN = 60;
        private static final int KEPT = SEEN + History.DEPTH;

        final int[] sorts = new int[KEPT];
        final int[] users = new int[KEPT];
        final int[] known = new int[KEPT];
        int length;

        int seen() {
            return Math.min(length, SEEN);
        }

        void note(int sort, int user, int knownThen) {
            int place = length % KEPT;
            sorts[place] = sort;
            users[place] = user;
            known[place] = knownThen;
            length++;
        }

        /** The caller has looked that i is one of those seen. */
        int entry(int i, int what) {
            int place = Math.floorMod(length - 1 - i, KEPT);
            if (what == 0) {
                return sorts[place];
            }
            return what == 1 ? users[place] : known[place];
        }

        void takeFrom(Journal other) {
            System.arraycopy(other.sorts, 0, sorts, 0, KEPT);
            System.arraycopy(other.users, 0, users, 0, KEPT);
            System.arraycopy(other.known, 0, known, 0, KEPT);
            length = other.length;
        }
    }

    /** How it was ahead of each of the latest ACTS. */
    private static final class History {
        static final int DEPTH = 40;

        private final State[] past = new State[DEPTH];
        private int next;
        int kept;

        History() {
            for (int i = 0; i < DEPTH; i++) {
                past[i] = new State();
            }
        }

        void keep(State state) {
            past[next].takeFrom(state);
            next = (next + 1) % DEPTH;
            kept = Math.min(kept + 1, DEPTH);
        }

        void giveBack(State state) {
            next = (next + DEPTH - 1) % DEPTH;
            kept--;
            state.takeFrom(past[next]);
        }
    }

    /** Draws that a seed tells. */
    private static final class Dice {
        private long x;

        void begin(long seed) {
            x = seed;
        }

        int cast(int sides) {
            x = x * 6364136223846793005L + 1442695040888963407L;
            return sides <= 0 ? 0 : (int) ((x >>> 33) % sides);
        }

        /** A draw of all WEIGHTS: how many COPIES. */
        int castDegree(Field field) {
            int lot = cast(field.allWeights);
            for (int k = 1; k <= GREATEST_DEGREE; k++) {
                if (lot < field.weights[k]) {
                    return k;
                }
                lot -= field.weights[k];
            }
            return 0;
        }
    }

    /** Who is CLEAR where, among any set of USERS taken as the UNKNOWN ones. */
    private static final class Peeler {
        private static final int NOT_YET = -1;

        private final Field field;
        final float[] strengths = new float[MOST_USERS];
        /** NOISE and the STRENGTHS of each set of USERS. */
        private final float[] dins = new float[MOST_SETS];
        /** Who is CLEAR in a SLOT with just this set of UNKNOWN USERS, by the CAPTURE in captureSeen. */
        private final int[] clearOnes = new int[MOST_SETS];
        final int[] occupants = new int[MOST_SLOTS];
        private int captureSeen;
        int unknown;

        Peeler(Field field) {
            this.field = field;
        }

        /** A new FIELD: the sets of more USERS build on those of fewer, so numbers rise in each sum. */
        void begin() {
            for (int user = 0; user < field.users; user++) {
                strengths[user] = field.power[user] / 10f / field.far[user] / field.far[user];
            }
            dins[0] = field.noise / 10f;
            for (int set = 1; set <= field.everyone(); set++) {
                int last = 31 - Integer.numberOfLeadingZeros(set);
                dins[set] = dins[set & ~(1 << last)] + strengths[last];
            }
            captureSeen = NOT_YET;
        }

        void lookAt(State state) {
            Arrays.fill(occupants, 0);
            unknown = 0;
            for (int user = 0; user < field.users; user++) {
                unknown |= state.way[user] == UNKNOWN ? 1 << user : 0;
                int end = field.reachTo(user);
                for (int slot = field.reachFrom(user); slot < end; slot++) {
                    occupants[slot] |= state.hasCopy(user, slot) ? 1 << user : 0;
                }
            }
            assume(state.capture);
        }

        void assume(int capture) {
            if (captureSeen != capture) {
                Arrays.fill(clearOnes, NOT_YET);
                captureSeen = capture;
            }
        }

        float dinFor(int user, int slot) {
            return dins[occupants[slot] & unknown & ~(1 << user)];
        }

        float marginOf(int user, int slot) {
            return strengths[user] - captureSeen / 10f * dinFor(user, slot);
        }

        /** Who would be CLEAR in a SLOT, were just these USERS UNKNOWN. */
        int clearIn(int slot, int set) {
            int crowd = occupants[slot] & set;
            if (clearOnes[crowd] == NOT_YET) {
                clearOnes[crowd] = clearAmong(crowd);
            }
            return clearOnes[crowd];
        }

        private int clearAmong(int crowd) {
            int found = 0;
            for (int user = 0; user < field.users; user++) {
                int others = crowd & ~(1 << user);
                boolean isClear = captureSeen == 0
                    ? others == 0
                    : strengths[user] >= captureSeen / 10f * dins[others];
                found |= others != crowd && isClear ? 1 << user : 0;
            }
            return found;
        }

        /** Who would be known by one ROUND, were just these USERS UNKNOWN. */
        int clearAnywhere(int set) {
            int found = 0;
            for (int slot = 0; slot < field.allSlots(); slot++) {
                found |= clearIn(slot, set);
            }
            return found;
        }

        /**
         * Who of a set stays UNKNOWN, if SLOTS from .. to - 1 but the barred ones are looked at again and again.
         * Fewer UNKNOWN USERS never make a COPY less CLEAR, so the order of the looks does not matter.
         */
        int settle(int set, int from, int to, long barred) {
            int left = set;
            for (int pass = 0; pass <= MOST_USERS; pass++) {
                int before = left;
                for (int slot = from; slot < to; slot++) {
                    if ((barred >> slot & 1L) == 0L) {
                        left &= ~clearIn(slot, left);
                    }
                }
                if (left == before) {
                    return left;
                }
            }
            return left;
        }

        /** Who of a set stays UNKNOWN, SOLVED. */
        int stuckOf(int set) {
            return settle(set, 0, field.allSlots(), 0L);
        }

        /** Whether one USER (its bit) is known, SOLVED, though no COPY in a JAMMED SLOT is ever CLEAR. */
        boolean isKnownDespite(int userBit, long jammed) {
            return (settle(unknown, 0, field.allSlots(), jammed) & userBit) == 0;
        }
    }

    /** What is done by hand, on any state. */
    private static final class Hand {
        private final Field field;
        private final Peeler peeler;
        private final Dice dice = new Dice();

        Hand(Field field, Peeler peeler) {
            this.field = field;
            this.peeler = peeler;
        }

        static int loggedUser(int sort, int first, int second, int answer) {
            switch (sort) {
                case STEP: return answer;
                case ROUND: return NONE;
                case CAPTURE: return NONE;
                case FILE: return second;
                default: return first;
            }
        }

        /** Why an ACT can't be, as STATUS counts it; NONE: it can be. */
        int refusalOf(State state, int sort, int first, int second) {
            if (field.users == 0) {
                return NOT_THERE;
            }
            switch (sort) {
                case STEP:
                case ROUND:
                    peeler.lookAt(state);
                    return peeler.clearAnywhere(peeler.unknown) == 0 ? NOTHING_TO_DO : NONE;
                case CAPTURE: return refusalOfCapture(state, first);
                case FILE: return refusalOfFile(state, first, second);
                default: return refusalOfUserAct(state, sort, first, second);
            }
        }

        private int refusalOfUserAct(State state, int sort, int first, int second) {
            if (noUser(first)) {
                return NOT_THERE;
            }
            switch (sort) {
                case TELL: return state.way[first] == UNKNOWN ? NONE : NOTHING_TO_DO;
                case FORGET: return state.way[first] == UNKNOWN ? NOTHING_TO_DO : NONE;
                case TURN: return refusalOfTurn(first, second);
                case DRAW: return field.allWeights == 0 ? NOTHING_TO_DO : NONE;
                default: return refusalOfSwap(state, first, second);
            }
        }

        private boolean noUser(int user) {
            return user < 0 || user >= field.users;
        }

        private int refusalOfCapture(State state, int c) {
            if (c < 0 || c > MOST_CAPTURE) {
                return OUT_OF_BOUNDS;
            }
            return state.capture == c ? NOTHING_TO_DO : NONE;
        }

        private int refusalOfTurn(int user, int slot) {
            if (slot < 0 || slot >= field.allSlots()) {
                return NOT_THERE;
            }
            return slot < field.reachFrom(user) || slot >= field.reachTo(user) ? OUT_OF_BOUNDS : NONE;
        }

        private int refusalOfFile(State state, int shelf, int user) {
            if (shelf < 0 || shelf >= SHELVES || noUser(user)) {
                return NOT_THERE;
            }
            if (state.way[user] == UNKNOWN) {
                return NOTHING_TO_DO;
            }
            return state.way[user] != shelf + 1 || state.filed[shelf] >= PLACES ? WRONG_SHELF : NONE;
        }

        private int refusalOfSwap(State state, int user, int other) {
            if (noUser(other)) {
                return NOT_THERE;
            }
            if (field.home[user] != field.home[other]) {
                return OUT_OF_BOUNDS;
            }
            return state.copies[user] == state.copies[other] ? NOTHING_TO_DO : NONE;
        }

        /** Does an ACT that can be done: what it answers, 0 or more. */
        int carryOut(State state, int sort, int first, int second, long seed) {
            switch (sort) {
                case STEP: return stepOn(state);
                case ROUND: return goRound(state);
                case TELL: return makeKnown(state, first);
                case FORGET: return makeUnknown(state, first);
                case CAPTURE: return setCapture(state, first);
                case FILE: return putOnShelf(state, first, second);
                case TURN: state.copies[first] ^= 1L << second; break;
                case DRAW: drawAnew(state, first, seed); break;
                default: exchange(state, first, second); break;
            }
            return Long.bitCount(state.copies[first]);
        }

        private int stepOn(State state) {
            peeler.lookAt(state);
            for (int slot = 0; slot < field.allSlots(); slot++) {
                int clearOnes = peeler.clearIn(slot, peeler.unknown);
                if (clearOnes != 0) {
                    int user = Integer.numberOfTrailingZeros(clearOnes);
                    state.way[user] = wayIn(slot);
                    return user;
                }
            }
            return 0;
        }

        private int wayIn(int slot) {
            return Integer.bitCount(peeler.occupants[slot] & peeler.unknown) == 1 ? SINGLE : CAPTURED;
        }

        private int goRound(State state) {
            peeler.lookAt(state);
            int found = 0;
            for (int slot = 0; slot < field.allSlots(); slot++) {
                int fresh = peeler.clearIn(slot, peeler.unknown) & ~found;
                for (int user = 0; user < field.users; user++) {
                    if ((fresh >> user & 1) != 0) {
                        state.way[user] = wayIn(slot);
                    }
                }
                found |= fresh;
            }
            return Integer.bitCount(found);
        }

        private int makeKnown(State state, int user) {
            state.way[user] = TOLD;
            return state.knownCount();
        }

        private int makeUnknown(State state, int user) {
            int before = state.way[user];
            state.way[user] = UNKNOWN;
            return before;
        }

        private int setCapture(State state, int c) {
            int before = state.capture;
            state.capture = c;
            return before;
        }

        private int putOnShelf(State state, int shelf, int user) {
            int place = state.filed[shelf];
            state.shelved[shelf * PLACES + place] = user;
            state.filed[shelf] = place + 1;
            return place;
        }

        private void exchange(State state, int user, int other) {
            long kept = state.copies[user];
            state.copies[user] = state.copies[other];
            state.copies[other] = kept;
        }

        private void drawAnew(State state, int user, long seed) {
            int from = field.reachFrom(user);
            int room = field.reachTo(user) - from;
            dice.begin(seed);
            int wanted = Math.min(dice.castDegree(field), room);
            long drawn = 0L;
            for (int had = 0; had < wanted; had++) {
                drawn |= 1L << freePlace(drawn, room, dice.cast(room - had));
            }
            state.copies[user] = drawn << from;
        }

        /** The place with that number among those, rising, that are not taken yet. */
        private static int freePlace(long taken, int room, int number) {
            int left = number;
            for (int place = 0; place < room; place++) {
                if ((taken >> place & 1L) == 0L) {
                    if (left == 0) {
                        return place;
                    }
                    left--;
                }
            }
            return 0;
        }
    }

    /** What would come, from as the Peeler sees it: nothing here changes a state. */
    private static final class Outlook {
        private static final long ALL_PARTS = 1000000000L;

        private final Field field;
        private final Peeler peeler;

        Outlook(Field field, Peeler peeler) {
            this.field = field;
            this.peeler = peeler;
        }

        int haste(int user) {
            int left = peeler.unknown;
            for (int rounds = 0; rounds <= MOST_USERS; rounds++) {
                if ((left >> user & 1) == 0) {
                    return rounds;
                }
                left &= ~peeler.clearAnywhere(left);
            }
            return NONE;
        }

        int roundsTillStuck() {
            int left = peeler.unknown;
            for (int rounds = 0; rounds <= MOST_USERS; rounds++) {
                int fresh = peeler.clearAnywhere(left);
                if (fresh == 0) {
                    return rounds;
                }
                left &= ~fresh;
            }
            return MOST_USERS;
        }

        int unknownBehind(int rounds) {
            int left = peeler.unknown;
            for (int i = 0; i < rounds; i++) {
                left &= ~peeler.clearAnywhere(left);
            }
            return left;
        }

        /** Only those that are stuck are tried: the others come to be known anyway. */
        int fewestHelpers() {
            int stuckOnes = peeler.stuckOf(peeler.unknown);
            int best = stuckOnes;
            for (int set = 0; set < stuckOnes; set++) {
                boolean isLess = Integer.bitCount(set) < Integer.bitCount(best);
                if ((set & ~stuckOnes) == 0 && isLess && peeler.stuckOf(stuckOnes & ~set) == 0) {
                    best = set;
                }
            }
            return best;
        }

        /** By halves, as a greater CAPTURE never makes a COPY CLEAR that was not. */
        int greatestCapture() {
            int low = 0;
            int high = MOST_CAPTURE;
            for (int i = 0; i < 10 && low < high; i++) {
                int middle = (low + high + 1) / 2;
                peeler.assume(middle);
                if (peeler.stuckOf(peeler.unknown) == 0) {
                    low = middle;
                } else {
                    high = middle - 1;
                }
            }
            return low == 0 ? NONE : low;
        }

        int copiesIn(int frame) {
            int found = 0;
            for (int i = 0; i < field.slots; i++) {
                found += Integer.bitCount(peeler.occupants[frame * field.slots + i]);
            }
            return found;
        }

        int clearSlotsIn(int frame) {
            int found = 0;
            for (int i = 0; i < field.slots; i++) {
                found += peeler.clearIn(frame * field.slots + i, peeler.unknown) != 0 ? 1 : 0;
            }
            return found;
        }

        private boolean isStuckSet(int set) {
            return set != 0 && (set & ~peeler.unknown) == 0 && peeler.clearAnywhere(set) == 0;
        }

        int stuckSets() {
            int found = 0;
            for (int set = 1; set <= peeler.unknown; set++) {
                found += isStuckSet(set) ? 1 : 0;
            }
            return found;
        }

        /** 0: there is none. */
        int leastStuckSet() {
            int best = 0;
            for (int set = 1; set <= peeler.unknown; set++) {
                boolean isLess = best == 0 || Integer.bitCount(set) < Integer.bitCount(best);
                if (isLess && isStuckSet(set)) {
                    best = set;
                }
            }
            return best;
        }

        private int settleInWindow(int left, int place, int width) {
            return peeler.settle(left, place * field.slots, (place + width) * field.slots, 0L);
        }

        int unknownBehindSlide(int width) {
            int left = peeler.unknown;
            for (int place = 0; place + width <= field.frames; place++) {
                left = settleInWindow(left, place, width);
            }
            return left;
        }

        int placeOnSlide(int user, int width) {
            int left = peeler.unknown;
            for (int place = 0; place + width <= field.frames; place++) {
                left = settleInWindow(left, place, width);
                if ((left >> user & 1) == 0) {
                    return place;
                }
            }
            return NONE;
        }

        /** BLAME. */
        int helpersOf(int user) {
            int found = 0;
            for (int other = 0; other < field.users; other++) {
                int bit = 1 << other;
                boolean isOther = other != user && (peeler.unknown & bit) != 0;
                if (isOther && (peeler.stuckOf(peeler.unknown & ~bit) >> user & 1) == 0) {
                    found |= bit;
                }
            }
            return found;
        }

        int othersKnownWithout(int user) {
            return field.users - 1 - Integer.bitCount(peeler.stuckOf(peeler.unknown & ~(1 << user)));
        }

        /** The UNKNOWN USER without which most others would be known; NONE: none is UNKNOWN. */
        int helperOfMost() {
            int best = NONE;
            int bestKnown = NONE;
            for (int user = 0; user < field.users; user++) {
                boolean isUnknown = (peeler.unknown >> user & 1) != 0;
                int known = isUnknown ? othersKnownWithout(user) : NONE;
                if (known > bestKnown) {
                    best = user;
                    bestKnown = known;
                }
            }
            return best;
        }

        int knownWithCopy(int user, int slot) {
            int before = peeler.occupants[slot];
            peeler.occupants[slot] = before | 1 << user;
            int left = peeler.stuckOf(peeler.unknown);
            peeler.occupants[slot] = before;
            return field.users - Integer.bitCount(left);
        }

        int bestNewSlot(int user) {
            int best = NONE;
            int bestKnown = NONE;
            for (int slot = field.reachFrom(user); slot < field.reachTo(user); slot++) {
                boolean isFree = (peeler.occupants[slot] >> user & 1) == 0;
                int known = isFree ? knownWithCopy(user, slot) : NONE;
                if (known > bestKnown) {
                    best = slot;
                    bestKnown = known;
                }
            }
            return best;
        }

        /** JAM. */
        int partsKnown(int user, int frame, int chance) {
            long open = ((1L << field.slots) - 1L) << frame * field.slots;
            return (int) partsFrom(peeler, 1 << user, chance, open, 0L, ALL_PARTS);
        }

        /**
         * JAM for the SLOTS that are open still (bits), the lowest first: each level takes one of them, 12 at most.
         * More JAMMED SLOTS never help: where the best or the worst to come decides, all parts go one way.
         */
        private static long partsFrom(Peeler peeler, int userBit, int chance, long open, long jammed, long parts) {
            if (parts == 0L || !peeler.isKnownDespite(userBit, jammed)) {
                return 0L;
            }
            if (open == 0L || peeler.isKnownDespite(userBit, jammed | open)) {
                return parts;
            }
            long slot = open & -open;
            long lost = parts * chance / 100L;
            return partsFrom(peeler, userBit, chance, open & ~slot, jammed | slot, lost)
                + partsFrom(peeler, userBit, chance, open & ~slot, jammed, parts - lost);
        }

        int fullestSlot() {
            int best = 0;
            for (int slot = 1; slot < field.allSlots(); slot++) {
                if (Integer.bitCount(peeler.occupants[slot]) > Integer.bitCount(peeler.occupants[best])) {
                    best = slot;
                }
            }
            return best;
        }

        int busiestUser(State state) {
            int best = 0;
            for (int user = 1; user < field.users; user++) {
                if (Long.bitCount(state.copies[user]) > Long.bitCount(state.copies[best])) {
                    best = user;
                }
            }
            return best;
        }

        int strongestUser() {
            int best = 0;
            for (int user = 1; user < field.users; user++) {
                if (peeler.strengths[user] > peeler.strengths[best]) {
                    best = user;
                }
            }
            return best;
        }

        int slotsWith(int copies) {
            int found = 0;
            for (int slot = 0; slot < field.allSlots(); slot++) {
                found += Integer.bitCount(peeler.occupants[slot]) == copies ? 1 : 0;
            }
            return found;
        }

        int partsOfUnknown() {
            int left = peeler.unknown;
            int parts = 0;
            for (int i = 0; i < MOST_USERS && left != 0; i++) {
                left &= ~partAround(left & -left);
                parts++;
            }
            return parts;
        }

        private int partAround(int seed) {
            int part = seed;
            for (int pass = 0; pass < MOST_USERS; pass++) {
                for (int slot = 0; slot < field.allSlots(); slot++) {
                    int crowd = peeler.occupants[slot] & peeler.unknown;
                    part |= (crowd & part) != 0 ? crowd : 0;
                }
            }
            return part;
        }
    }

    /** What DEGREES let one hope for, without a look at who sends. */
    private static final class Odds {
        private final Field field;

        Odds(Field field) {
            this.field = field;
        }

        private int allCopies() {
            int sum = 0;
            for (int k = 1; k <= GREATEST_DEGREE; k++) {
                sum += k * field.weights[k];
            }
            return sum;
        }

        private double reach() {
            if (field.allWeights == 0 || field.slots == 0) {
                return 0.0;
            }
            double mean = (double) allCopies() / (double) field.allWeights;
            double reach = mean / (double) field.slots;
            return reach > 1.0 ? 1.0 : reach;
        }

        double shareOf(int senders, int rounds) {
            double reach = reach();
            double share = 1.0;
            for (int i = 0; i < rounds; i++) {
                double next = shareByHold(1.0 - multiplied(1.0, 1.0 - reach * share, senders - 1));
                if (next == share) {
                    // From here on each round answers the same.
                    return share;
                }
                share = next;
            }
            return share;
        }

        private double shareByHold(double hold) {
            int all = allCopies();
            double sum = 0.0;
            for (int k = 1; k <= GREATEST_DEGREE; k++) {
                if (field.weights[k] != 0) {
                    sum = sum + multiplied((double) (k * field.weights[k]), hold, k - 1);
                }
            }
            return all == 0 ? 0.0 : sum / (double) all;
        }

        private static double multiplied(double start, double factor, int times) {
            double product = start;
            for (int i = 0; i < times; i++) {
                product = product * factor;
            }
            return product;
        }
    }
}
