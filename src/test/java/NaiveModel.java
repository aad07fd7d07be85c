import java.util.ArrayList;
import java.util.HashMap;
import java.util.List;
import java.util.Map;
import java.util.NoSuchElementException;

/**
 * The document once more, word by word, without any thought of speed or room: ROUNDS and STEPS are really done,
 * sets are really tried one by one, every JAMMED pattern is looked at, bits of numbers come from the library.
 * OracleTest compares BurstPeeler with it. Public methods bear the names of the face.
 */
public final class NaiveModel {
    private static final int NONE = -1;
    private static final int HIDDEN = -1000000;

    /** What ACTS change. */
    private static final class World {
        int[] way = new int[0];
        boolean[][] copy = new boolean[0][];
        int capture;
        List<List<Integer>> shelves = new ArrayList<>();
        List<int[]> log = new ArrayList<>();

        World copyOf() {
            World w = new World();
            w.way = way.clone();
            w.copy = new boolean[copy.length][];
            for (int u = 0; u < copy.length; u++) {
                w.copy[u] = copy[u].clone();
            }
            w.capture = capture;
            for (List<Integer> shelf : shelves) {
                w.shelves.add(new ArrayList<>(shelf));
            }
            w.log = new ArrayList<>(log);
            return w;
        }

        int known() {
            int k = 0;
            for (int way1 : way) {
                k += way1 != 0 ? 1 : 0;
            }
            return k;
        }

        int knownBits() {
            int k = 0;
            for (int u = 0; u < way.length; u++) {
                k |= way[u] != 0 ? 1 << u : 0;
            }
            return k;
        }

        int copiesOf(int u) {
            int k = 0;
            for (boolean has : copy[u]) {
                k += has ? 1 : 0;
            }
            return k;
        }
    }

    private static final class Parsed {
        int[] rules = {8, 1, 0, 0};
        List<int[]> users = new ArrayList<>();
        List<int[]> degrees = new ArrayList<>();
        int fault = NONE;
    }

    private StringBuilder tape = new StringBuilder();
    private Parsed field = null;
    private World world = new World();
    private World image = null;
    private final List<List<int[]>> scripts = new ArrayList<>();
    private List<World> past = new ArrayList<>();
    private final int[] status = new int[4];
    private long x;

    // ---- texts

    private static final Map<Character, String> LETTERS = Map.of('s', "nfcz", 'u', "pgtab", 'd', "kq");
    private static final Map<String, int[]> BOUNDS = Map.ofEntries(
        Map.entry("sn", new int[] {2, 12}), Map.entry("sf", new int[] {1, 4}),
        Map.entry("sc", new int[] {0, 99}), Map.entry("sz", new int[] {0, 99}),
        Map.entry("up", new int[] {1, 99}), Map.entry("ug", new int[] {1, 9}), Map.entry("ut", new int[] {0, 3}),
        Map.entry("ua", new int[] {0, 4095}), Map.entry("ub", new int[] {0, 4095}),
        Map.entry("dk", new int[] {1, 6}), Map.entry("dq", new int[] {1, 99}));

    /** A machine of states that eats one sign after the other. */
    private static Parsed parseField(String text) {
        Parsed p = new Parsed();
        char clause = 0;
        char item = 0;
        String digits = "";
        String had = "";
        int[] values = null;
        int s = 0;
        String state = "clause";
        for (int i = 0; i <= text.length(); i++) {
            char c = i < text.length() ? text.charAt(i) : 0;
            boolean digit = i < text.length() && c >= '0' && c <= '9';
            if (state.equals("number")) {
                if (digit) {
                    digits += c;
                    if (digits.length() == 5) {
                        p.fault = i;
                        return p;
                    }
                    continue;
                }
                int value = Integer.parseInt(digits);
                int[] bounds = BOUNDS.get("" + clause + item);
                if (value < bounds[0] || value > bounds[1]) {
                    p.fault = i - 1;
                    return p;
                }
                values[LETTERS.get(clause).indexOf(item)] = value;
                state = "items";
            }
            if (c == ' ') {
                continue;
            }
            if (i == text.length()) {
                if (!state.equals("items")) {
                    p.fault = i;
                }
                break;
            }
            if (state.equals("clause")) {
                if (c == 's' && s == 0) {
                    s = 1;
                    values = p.rules;
                } else if (c == 'u' && p.users.size() < 10) {
                    values = new int[] {10, 1, 0, 0, 0};
                    p.users.add(values);
                } else if (c == 'd' && p.degrees.size() < 6) {
                    values = new int[] {1, 1};
                    p.degrees.add(values);
                } else {
                    p.fault = i;
                    return p;
                }
                clause = c;
                had = "";
                state = "items";
            } else if (state.equals("items")) {
                if (c == ';') {
                    state = "clause";
                } else if (LETTERS.get(clause).indexOf(c) >= 0 && had.indexOf(c) < 0) {
                    item = c;
                    had += c;
                    state = "item";
                } else {
                    p.fault = i;
                    return p;
                }
            } else if (digit) {
                digits = "" + c;
                state = "number";
            } else {
                p.fault = i;
                return p;
            }
        }
        if (p.fault == NONE && !isWhole(p)) {
            p.fault = text.length();
        }
        return p;
    }

    private static boolean isWhole(Parsed p) {
        if (p.users.isEmpty()) {
            return false;
        }
        for (int[] u : p.users) {
            if (u[2] >= p.rules[1]) {
                return false;
            }
            for (int bit = 0; bit < 12; bit++) {
                boolean own = (u[3] & 1 << bit) != 0;
                boolean next = (u[4] & 1 << bit) != 0;
                if ((own || next) && bit >= p.rules[0] || next && u[2] + 1 >= p.rules[1]) {
                    return false;
                }
            }
        }
        return true;
    }

    /** The STEPS as pairs; with a FAULT one triple holds it at the end. */
    private static List<int[]> parseScript(String text) {
        List<int[]> steps = new ArrayList<>();
        int i = 0;
        while (true) {
            while (i < text.length() && text.charAt(i) == ' ') {
                i++;
            }
            int kind = i < text.length() ? "prtfxc".indexOf(text.charAt(i)) : -1;
            if (kind < 0) {
                steps.add(new int[] {0, 0, i});
                return steps;
            }
            i++;
            int number = NONE;
            if (kind >= 2) {
                while (i < text.length() && text.charAt(i) == ' ') {
                    i++;
                }
                int most = kind == 5 ? 4 : 1;
                int from = i;
                while (i < text.length() && i < from + most && Character.isDigit(text.charAt(i))) {
                    i++;
                }
                if (i == from || i < text.length() && text.charAt(i) >= '0' && text.charAt(i) <= '9') {
                    steps.add(new int[] {0, 0, i});
                    return steps;
                }
                number = Integer.parseInt(text.substring(from, i));
            }
            steps.add(new int[] {kind, number});
            while (i < text.length() && text.charAt(i) == ' ') {
                i++;
            }
            if (i == text.length()) {
                return steps;
            }
            if (text.charAt(i) != ';' || steps.size() == 16) {
                steps.add(new int[] {0, 0, i});
                return steps;
            }
            i++;
        }
    }

    private static int faultOf(List<int[]> steps) {
        int[] last = steps.get(steps.size() - 1);
        return last.length == 3 ? last[2] : NONE;
    }

    public int feed(int a, int b, int c, int d, int e) {
        StringBuilder more = new StringBuilder();
        for (int word : new int[] {a, b, c, d, e}) {
            for (int i = 3; i >= 0; i--) {
                int sign = word >> 8 * i & 255;
                if (sign > 0) {
                    more.append((char) sign);
                }
            }
        }
        if (tape.length() + more.length() > 240) {
            return NONE;
        }
        tape.append(more);
        return tape.length();
    }

    public boolean end(int n) {
        if (n < 0 || n > tape.length()) {
            return false;
        }
        tape.setLength(n);
        return true;
    }

    public int fault(int sort) {
        if (sort != 0 && sort != 1) {
            return -2;
        }
        return sort == 0 ? parseField(tape.toString()).fault : faultOf(parseScript(tape.toString()));
    }

    public int text(int sort) {
        if (sort < 0 || sort > 1 || fault(sort) != NONE || sort == 1 && scripts.size() == 4) {
            return NONE;
        }
        String text = tape.toString();
        tape = new StringBuilder();
        if (sort == 1) {
            scripts.add(parseScript(text));
            return scripts.size() - 1;
        }
        field = parseField(text);
        world = new World();
        image = null;
        past = new ArrayList<>();
        world.way = new int[users()];
        world.copy = new boolean[users()][slots()];
        world.capture = field.rules[2];
        for (int i = 0; i < 3; i++) {
            world.shelves.add(new ArrayList<>());
        }
        for (int u = 0; u < users(); u++) {
            for (int i = 0; i < field.rules[0]; i++) {
                int[] told = field.users.get(u);
                int own = told[2] * field.rules[0] + i;
                world.copy[u][own] = (told[3] & 1 << i) != 0;
                if ((told[4] & 1 << i) != 0) {
                    world.copy[u][own + field.rules[0]] = true;
                }
            }
        }
        return users();
    }

    // ---- facts

    private int users() {
        return field == null ? 0 : field.users.size();
    }

    private int slots() {
        return field == null ? 0 : field.rules[0] * field.rules[1];
    }

    private boolean isUser(int u) {
        return u >= 0 && u < users();
    }

    private boolean isSlot(int s) {
        return s >= 0 && s < slots();
    }

    private int frameOf(int u) {
        return field.users.get(u)[2];
    }

    private boolean mayHave(int u, int s) {
        int frame = s / field.rules[0];
        return frame == frameOf(u) || frame == frameOf(u) + 1;
    }

    private List<Integer> reach(int u) {
        List<Integer> found = new ArrayList<>();
        for (int s = 0; s < slots(); s++) {
            if (mayHave(u, s)) {
                found.add(s);
            }
        }
        return found;
    }

    private float strengthOf(int u) {
        float s = (float) field.users.get(u)[0];
        s = s / 10.0f;
        s = s / (float) field.users.get(u)[1];
        s = s / (float) field.users.get(u)[1];
        return s;
    }

    private float dinOf(World w, int u, int s) {
        float d = (float) field.rules[3] / 10.0f;
        for (int o = 0; o < users(); o++) {
            if (o != u && w.way[o] == 0 && w.copy[o][s]) {
                d = d + strengthOf(o);
            }
        }
        return d;
    }

    private int othersIn(World w, int u, int s) {
        int k = 0;
        for (int o = 0; o < users(); o++) {
            k += o != u && w.way[o] == 0 && w.copy[o][s] ? 1 : 0;
        }
        return k;
    }

    private boolean isClear(World w, int u, int s) {
        if (w.way[u] != 0 || !w.copy[u][s]) {
            return false;
        }
        if (w.capture == 0) {
            return othersIn(w, u, s) == 0;
        }
        float times = (float) w.capture / 10.0f;
        float needed = times * dinOf(w, u, s);
        return strengthOf(u) >= needed;
    }

    public int rule(int what) {
        if (field == null || what < 0 || what > 4) {
            return NONE;
        }
        return new int[] {field.rules[0], field.rules[1], world.capture, field.rules[3], slots()}[what];
    }

    private int weightOf(int k) {
        int sum = 0;
        for (int[] d : field.degrees) {
            sum += d[0] == k ? d[1] : 0;
        }
        return sum;
    }

    public int weight(int k) {
        return field == null || k < 1 || k > 6 ? NONE : weightOf(k);
    }

    public int user(int user, int what) {
        if (!isUser(user) || what < 0 || what > 5) {
            throw new NoSuchElementException();
        }
        if (what < 3) {
            return field.users.get(user)[what];
        }
        if (what == 3) {
            return world.copiesOf(user);
        }
        if (what == 4) {
            return world.way[user];
        }
        World w = world.copyOf();
        int rounds = 0;
        while (w.way[user] == 0) {
            if (doRound(w) == 0) {
                return NONE;
            }
            rounds++;
        }
        return rounds;
    }

    public long copies(int user) {
        long bits = 0;
        if (isUser(user)) {
            for (int s = 0; s < slots(); s++) {
                bits |= world.copy[user][s] ? 1L << s : 0L;
            }
        }
        return bits;
    }

    public int strength(int user) {
        return isUser(user) ? Float.floatToIntBits(strengthOf(user)) : NONE;
    }

    private boolean isOpen(int user, int slot) {
        return isUser(user) && isSlot(slot) && world.copy[user][slot] && world.way[user] == 0;
    }

    public int din(int user, int slot) {
        return isOpen(user, slot) ? Float.floatToIntBits(dinOf(world, user, slot)) : NONE;
    }

    public int margin(int user, int slot) {
        if (!isOpen(user, slot)) {
            return NONE;
        }
        float needed = (float) world.capture / 10.0f;
        needed = needed * dinOf(world, user, slot);
        return Float.floatToIntBits(strengthOf(user) - needed);
    }

    public int clear(int user, int slot) {
        return isOpen(user, slot) ? isClear(world, user, slot) ? 1 : 0 : NONE;
    }

    public int slot(int slot, int what) {
        if (!isSlot(slot) || what < 0 || what > 3) {
            return HIDDEN;
        }
        int[] answers = new int[4];
        for (int u = 0; u < users(); u++) {
            if (world.copy[u][slot]) {
                answers[0]++;
                if (world.way[u] == 0) {
                    answers[1]++;
                    answers[2] |= 1 << u;
                }
                answers[3] |= isClear(world, u, slot) ? 1 << u : 0;
            }
        }
        return answers[what];
    }

    // ---- STEPS and ROUNDS on any world

    /** A STEP that looks at SLOTS from .. to - 1: who is known then, or NONE. */
    private int doStep(World w, int from, int to) {
        for (int s = from; s < to; s++) {
            for (int u = 0; u < users(); u++) {
                if (isClear(w, u, s)) {
                    w.way[u] = othersIn(w, u, s) == 0 ? 1 : 2;
                    return u;
                }
            }
        }
        return NONE;
    }

    private int doRound(World w) {
        World before = w.copyOf();
        int found = 0;
        for (int u = 0; u < users(); u++) {
            for (int s = 0; s < slots(); s++) {
                if (isClear(before, u, s)) {
                    w.way[u] = othersIn(before, u, s) == 0 ? 1 : 2;
                    found++;
                    break;
                }
            }
        }
        return found;
    }

    private World solve(World from) {
        World w = from.copyOf();
        while (doRound(w) > 0) {
            continue;
        }
        return w;
    }

    private int next(int j) {
        x = x * 6364136223846793005L + 1442695040888963407L;
        return (int) ((x >>> 33) % j);
    }

    private int nextDegree() {
        List<Integer> numbers = new ArrayList<>();
        for (int k = 1; k <= 6; k++) {
            for (int i = 0; i < weightOf(k); i++) {
                numbers.add(k);
            }
        }
        return numbers.get(next(numbers.size()));
    }

    private void drawAnew(World w, int user, long seed) {
        List<Integer> free = reach(user);
        x = seed;
        int k = Math.min(nextDegree(), free.size());
        w.copy[user] = new boolean[slots()];
        for (int i = 0; i < k; i++) {
            w.copy[user][free.remove(next(free.size()))] = true;
        }
    }

    // ---- ACTS; of each: the answer, or -1 less the refusal

    private int actOn(World w, int sort, int a, int b, long seed) {
        int answer = bareAct(w, sort, a, b, seed);
        if (answer >= 0) {
            int user = sort == 1 || sort == 5 ? NONE : sort == 0 ? answer : sort == 7 ? b : a;
            w.log.add(new int[] {sort, user, w.known()});
            if (w.log.size() > 60) {
                w.log.remove(0);
            }
        }
        return answer;
    }

    private int bareAct(World w, int sort, int a, int b, long seed) {
        if (field == null) {
            return -1;
        }
        switch (sort) {
            case 0: {
                int user = doStep(w, 0, slots());
                return user == NONE ? -3 : user;
            }
            case 1: {
                int found = doRound(w);
                return found == 0 ? -3 : found;
            }
            case 2:
                if (!isUser(a)) {
                    return -1;
                }
                if (w.way[a] != 0) {
                    return -3;
                }
                w.way[a] = 3;
                return w.known();
            case 3: {
                if (!isUser(a)) {
                    return -1;
                }
                int was = w.way[a];
                w.way[a] = 0;
                return was == 0 ? -3 : was;
            }
            case 4:
                if (!isUser(a) || !isSlot(b)) {
                    return -1;
                }
                if (!mayHave(a, b)) {
                    return -2;
                }
                w.copy[a][b] = !w.copy[a][b];
                return w.copiesOf(a);
            case 5: {
                int was = w.capture;
                if (a < 0 || a > 99) {
                    return -2;
                }
                w.capture = a;
                return was == a ? -3 : was;
            }
            case 6:
                if (!isUser(a)) {
                    return -1;
                }
                if (field.degrees.isEmpty()) {
                    return -3;
                }
                drawAnew(w, a, seed);
                return w.copiesOf(a);
            case 7:
                if (a < 0 || a > 2 || !isUser(b)) {
                    return -1;
                }
                if (w.way[b] == 0) {
                    return -3;
                }
                if (w.way[b] != a + 1 || w.shelves.get(a).size() == 10) {
                    return -4;
                }
                w.shelves.get(a).add(b);
                return w.shelves.get(a).size() - 1;
            default: {
                if (!isUser(a) || !isUser(b)) {
                    return -1;
                }
                if (frameOf(a) != frameOf(b)) {
                    return -2;
                }
                if (a == b || java.util.Arrays.equals(w.copy[a], w.copy[b])) {
                    return -3;
                }
                boolean[] kept = w.copy[a];
                w.copy[a] = w.copy[b];
                w.copy[b] = kept;
                return w.copiesOf(a);
            }
        }
    }

    private int attempt(int sort, int a, int b, long seed) {
        World before = world.copyOf();
        int answer = actOn(world, sort, a, b, seed);
        if (answer >= 0) {
            past.add(before);
            if (past.size() > 40) {
                past.remove(0);
            }
        } else if (field != null) {
            world = before;
        }
        return answer;
    }

    private int act(int sort, int a, int b, long seed) {
        int answer = attempt(sort, a, b, seed);
        if (answer < 0) {
            status[-1 - answer]++;
            return NONE;
        }
        return answer;
    }

    public int peel() {
        return act(0, 0, 0, 0);
    }

    public int round() {
        return act(1, 0, 0, 0);
    }

    public int tell(int user) {
        return act(2, user, 0, 0);
    }

    public int forget(int user) {
        return act(3, user, 0, 0);
    }

    public int turn(int user, int slot) {
        return act(4, user, slot, 0);
    }

    public int capture(int c) {
        return act(5, c, 0, 0);
    }

    public int draw(int user, long seed) {
        return act(6, user, 0, seed);
    }

    public int swap(int user, int other) {
        return act(8, user, other, 0);
    }

    public int file(int shelf, int user) {
        return act(7, shelf, user, 0);
    }

    public int shelf(int shelf, int place) {
        if (field == null || shelf < 0 || shelf > 2 || place < 0 || place >= world.shelves.get(shelf).size()) {
            return NONE;
        }
        return world.shelves.get(shelf).get(place);
    }

    public int years(int n, long seed) {
        if (field == null || n < 1 || n > 40) {
            return NONE;
        }
        x = seed;
        for (int i = 0; i < n; i++) {
            switch (next(8)) {
                case 0: case 1: attempt(0, 0, 0, 0); break;
                case 2: attempt(1, 0, 0, 0); break;
                case 3: attempt(2, next(users()), 0, 0); break;
                case 4: attempt(3, next(users()), 0, 0); break;
                case 7: attempt(5, next(30), 0, 0); break;
                default: {
                    int user = next(users());
                    List<Integer> reach = reach(user);
                    attempt(4, user, reach.get(next(reach.size())), 0);
                }
            }
        }
        return world.known();
    }

    public int status(int what) {
        return what < 0 || what > 3 ? NONE : status[what];
    }

    public int undo() {
        if (past.isEmpty()) {
            return NONE;
        }
        world = past.remove(past.size() - 1);
        return past.size();
    }

    public int log(int i, int what) {
        if (i < 0 || i >= world.log.size() || what < 0 || what > 2) {
            return HIDDEN;
        }
        return world.log.get(world.log.size() - 1 - i)[what];
    }

    // ---- what would come

    public int solved(int what) {
        if (field == null || what < 0 || what > 2) {
            return NONE;
        }
        World w = world.copyOf();
        int rounds = 0;
        while (doRound(w) > 0) {
            rounds++;
        }
        return what == 0 ? w.known() : what == 1 ? w.knownBits() : rounds;
    }

    public int ahead(int n) {
        if (field == null || n < 0 || n > 20) {
            return NONE;
        }
        World w = world.copyOf();
        for (int i = 0; i < n; i++) {
            doRound(w);
        }
        return w.knownBits();
    }

    private World silent(int user) {
        World w = world.copyOf();
        w.copy[user] = new boolean[slots()];
        return w;
    }

    private World told(int user) {
        World w = world.copyOf();
        w.way[user] = 3;
        return w;
    }

    public int fewest(int way, int what) {
        if (field == null || way < 0 || way > 1 || what < 0 || what > 1) {
            return NONE;
        }
        int all = (1 << users()) - 1;
        int best = -1;
        for (int set = 0; set <= all; set++) {
            if ((set & world.knownBits()) != 0) {
                continue;
            }
            World w = world.copyOf();
            for (int u = 0; u < users(); u++) {
                if ((set & 1 << u) != 0) {
                    if (way == 0) {
                        w.copy[u] = new boolean[slots()];
                    } else {
                        w.way[u] = 3;
                    }
                }
            }
            boolean good = (solve(w).knownBits() | set) == all;
            if (good && (best < 0 || Integer.bitCount(set) < Integer.bitCount(best))) {
                best = set;
            }
        }
        return what == 0 ? Integer.bitCount(best) : best;
    }

    public int tight() {
        if (field == null) {
            return NONE;
        }
        for (int c = 99; c >= 1; c--) {
            World w = world.copyOf();
            w.capture = c;
            if (solve(w).known() == users()) {
                return c;
            }
        }
        return NONE;
    }

    public int touch(int user, int other) {
        if (!isUser(user) || !isUser(other) || user == other || world.way[user] != 0 || world.way[other] != 0) {
            return NONE;
        }
        int k = 0;
        for (int s = 0; s < slots(); s++) {
            k += world.copy[user][s] && world.copy[other][s] ? 1 : 0;
        }
        return k;
    }

    public int frame(int frame, int what) {
        if (field == null || frame < 0 || frame >= field.rules[1] || what < 0 || what > 4) {
            return NONE;
        }
        World end = solve(world);
        int[] answers = new int[5];
        for (int u = 0; u < users(); u++) {
            if (frameOf(u) == frame) {
                answers[0]++;
                answers[1] += world.way[u] != 0 ? 1 : 0;
                answers[4] += end.way[u] == 0 ? 1 : 0;
            }
        }
        for (int s = 0; s < slots(); s++) {
            if (s / field.rules[0] == frame) {
                boolean any = false;
                for (int u = 0; u < users(); u++) {
                    answers[2] += world.copy[u][s] ? 1 : 0;
                    any |= isClear(world, u, s);
                }
                answers[3] += any ? 1 : 0;
            }
        }
        return answers[what];
    }

    private boolean isStuck(int set) {
        World w = world.copyOf();
        for (int u = 0; u < users(); u++) {
            w.way[u] = (set & 1 << u) != 0 ? 0 : 3;
        }
        for (int u = 0; u < users(); u++) {
            for (int s = 0; s < slots(); s++) {
                if (isClear(w, u, s)) {
                    return false;
                }
            }
        }
        return true;
    }

    public int stuck(int what) {
        if (field == null || what < 0 || what > 3) {
            return NONE;
        }
        int least = 0;
        int greatest = 0;
        int number = 0;
        for (int set = 1; set < 1 << users(); set++) {
            if ((set & world.knownBits()) == 0 && isStuck(set)) {
                number++;
                if (least == 0 || Integer.bitCount(set) < Integer.bitCount(least)) {
                    least = set;
                }
                if (Integer.bitCount(set) > Integer.bitCount(greatest)) {
                    greatest = set;
                }
            }
        }
        return new int[] {Integer.bitCount(least), least, number, greatest}[what];
    }

    private int[] slide(int w) {
        World world1 = world.copyOf();
        int[] place = new int[users()];
        java.util.Arrays.fill(place, NONE);
        for (int p = 0; p + w <= field.rules[1]; p++) {
            int user = doStep(world1, p * field.rules[0], (p + w) * field.rules[0]);
            while (user != NONE) {
                place[user] = p;
                user = doStep(world1, p * field.rules[0], (p + w) * field.rules[0]);
            }
        }
        return place;
    }

    public int slid(int w) {
        if (field == null || w < 1 || w > field.rules[1]) {
            return NONE;
        }
        int[] place = slide(w);
        int bits = 0;
        for (int u = 0; u < users(); u++) {
            bits |= world.way[u] != 0 || place[u] != NONE ? 1 << u : 0;
        }
        return bits;
    }

    public int slidAt(int user, int w) {
        if (!isUser(user) || w < 1 || w > field.rules[1]) {
            return NONE;
        }
        return world.way[user] != 0 ? -2 : slide(w)[user];
    }

    public int blame(int user) {
        if (!isUser(user) || world.way[user] != 0) {
            return NONE;
        }
        int bits = 0;
        for (int o = 0; o < users(); o++) {
            if (o != user && world.way[o] == 0 && solve(told(o)).way[user] != 0) {
                bits |= 1 << o;
            }
        }
        return bits;
    }

    public int senders(int k) {
        if (field == null || k < 0 || k > 24) {
            return NONE;
        }
        int found = 0;
        for (int u = 0; u < users(); u++) {
            found += world.copiesOf(u) == k ? 1 : 0;
        }
        return found;
    }

    public int less(int what) {
        if (field == null || what < 0 || what > 1) {
            return HIDDEN;
        }
        int best = NONE;
        int most = -1;
        for (int u = 0; u < users(); u++) {
            if (world.way[u] == 0) {
                int others = Integer.bitCount(solve(silent(u)).knownBits() & ~(1 << u));
                if (others > most) {
                    most = others;
                    best = u;
                }
            }
        }
        return what == 0 ? best : Math.max(most, 0);
    }

    public int key(int what) {
        if (field == null || what < 0 || what > 1) {
            return HIDDEN;
        }
        int best = NONE;
        int most = 0;
        for (int u = 0; u < users(); u++) {
            if (world.way[u] == 0 && solve(told(u)).known() > most) {
                most = solve(told(u)).known();
                best = u;
            }
        }
        return what == 0 ? best : most;
    }

    public int more(int user, int what) {
        if (!isUser(user) || what < 0 || what > 1) {
            return HIDDEN;
        }
        int best = NONE;
        int most = -1;
        for (int s : reach(user)) {
            if (!world.copy[user][s]) {
                World w = world.copyOf();
                w.copy[user][s] = true;
                if (solve(w).known() > most) {
                    most = solve(w).known();
                    best = s;
                }
            }
        }
        return what == 0 ? best : Math.max(most, 0);
    }

    private boolean isKnownJammed(int user, long jammed) {
        World w = world.copyOf();
        boolean changed = true;
        while (changed) {
            changed = false;
            for (int s = 0; s < slots(); s++) {
                for (int u = 0; u < users(); u++) {
                    if ((jammed & 1L << s) == 0 && isClear(w, u, s)) {
                        w.way[u] = 1;
                        changed = true;
                    }
                }
            }
        }
        return w.way[user] != 0;
    }

    public int jam(int user, int frame, int chance) {
        if (!isUser(user) || frame < 0 || frame >= field.rules[1] || chance < 0 || chance > 100) {
            return NONE;
        }
        Map<Long, Long> parts = new HashMap<>();
        parts.put(0L, 1000000000L);
        for (int i = 0; i < field.rules[0]; i++) {
            Map<Long, Long> split = new HashMap<>();
            for (Map.Entry<Long, Long> e : parts.entrySet()) {
                long lost = e.getValue() * chance / 100;
                split.put(e.getKey() | 1L << frame * field.rules[0] + i, lost);
                split.put(e.getKey(), e.getValue() - lost);
            }
            parts = split;
        }
        long sum = 0;
        for (Map.Entry<Long, Long> e : parts.entrySet()) {
            sum += e.getValue() > 0 && isKnownJammed(user, e.getKey()) ? e.getValue() : 0;
        }
        return (int) sum;
    }

    // ---- DEGREES

    private boolean noDegrees() {
        return field == null || field.degrees.isEmpty();
    }

    private double shareOf(int m, int l) {
        double weights = 0;
        double all = 0;
        for (int k = 1; k <= 6; k++) {
            weights += weightOf(k);
            all += k * weightOf(k);
        }
        double mean = all / weights;
        double reach = Math.min(mean / field.rules[0], 1.0);
        double share = 1;
        for (int i = 0; i < l; i++) {
            double one = 1;
            for (int j = 1; j < m; j++) {
                one *= 1 - reach * share;
            }
            double hold = 1 - one;
            double sum = 0;
            for (int k = 1; k <= 6; k++) {
                if (weightOf(k) > 0) {
                    double term = k * weightOf(k);
                    for (int j = 1; j < k; j++) {
                        term *= hold;
                    }
                    sum += term;
                }
            }
            share = sum / all;
        }
        return share;
    }

    public long share(int m, int l) {
        if (noDegrees() || m < 1 || m > 60 || l < 0 || l > 40) {
            return NONE;
        }
        return Double.doubleToLongBits(shareOf(m, l));
    }

    public int limit() {
        int greatest = NONE;
        for (int m = 1; m <= 60 && !noDegrees(); m++) {
            greatest = shareOf(m, 40) < 0.001 ? m : greatest;
        }
        return greatest;
    }

    public int sample(long seed) {
        if (noDegrees()) {
            return NONE;
        }
        x = seed;
        return nextDegree();
    }

    public int load(int c) {
        return field == null || c < 0 || c > 999 ? NONE : c * users() / slots();
    }

    // ---- SCRIPTS

    private boolean isScript(int script) {
        return script >= 0 && script < scripts.size();
    }

    public int step(int script, int i, int what) {
        if (!isScript(script) || i < 0 || i >= scripts.get(script).size() || what < 0 || what > 1) {
            return HIDDEN;
        }
        return scripts.get(script).get(i)[what];
    }

    private static int sortOf(int kind) {
        return new int[] {0, 1, 2, 3, 6, 5}[kind];
    }

    public int run(int script, int what) {
        if (!isScript(script) || field == null || what < 0 || what > 1) {
            return HIDDEN;
        }
        World w = world.copyOf();
        int done = 0;
        for (int[] step : scripts.get(script)) {
            if (actOn(w, sortOf(step[0]), step[1], 0, step[1]) < 0) {
                break;
            }
            done++;
        }
        return what == 1 ? w.known() : done == scripts.get(script).size() ? NONE : done;
    }

    public int perform(int script) {
        if (!isScript(script) || field == null) {
            return NONE;
        }
        int done = 0;
        for (int[] step : scripts.get(script)) {
            if (attempt(sortOf(step[0]), step[1], 0, step[1]) < 0) {
                break;
            }
            done++;
        }
        return done;
    }

    // ---- sums, images

    private int partsOfUnknown() {
        int[] part = new int[users()];
        for (int u = 0; u < users(); u++) {
            part[u] = u;
        }
        for (int u = 0; u < users(); u++) {
            for (int o = 0; o < users(); o++) {
                if (touch(u, o) > 0) {
                    int gone = part[o];
                    for (int i = 0; i < users(); i++) {
                        part[i] = part[i] == gone ? part[u] : part[i];
                    }
                }
            }
        }
        List<Integer> names = new ArrayList<>();
        for (int u = 0; u < users(); u++) {
            if (world.way[u] == 0 && !names.contains(part[u])) {
                names.add(part[u]);
            }
        }
        return names.size();
    }

    public int most(int what) {
        if (field == null || what < 0 || what > 8) {
            return HIDDEN;
        }
        int fullest = 0;
        int empty = 0;
        int single = 0;
        for (int s = 0; s < slots(); s++) {
            int here = slot(s, 0);
            empty += here == 0 ? 1 : 0;
            single += here == 1 ? 1 : 0;
            fullest = here > slot(fullest, 0) ? s : fullest;
        }
        int busiest = 0;
        int strongest = 0;
        int all = 0;
        int filed = 0;
        for (int u = 0; u < users(); u++) {
            all += world.copiesOf(u);
            busiest = world.copiesOf(u) > world.copiesOf(busiest) ? u : busiest;
            strongest = strengthOf(u) > strengthOf(strongest) ? u : strongest;
        }
        for (List<Integer> shelf : world.shelves) {
            filed += shelf.size();
        }
        return new int[] {world.knownBits(), fullest, busiest, strongest, empty, single, all, filed,
            partsOfUnknown()}[what];
    }

    public int image() {
        if (field == null) {
            return NONE;
        }
        image = world.copyOf();
        return world.known();
    }

    public int back() {
        if (image == null) {
            return NONE;
        }
        world = image.copyOf();
        past = new ArrayList<>();
        return world.known();
    }

    public int count(int what) {
        if (what < 0 || what > 4) {
            return HIDDEN;
        }
        return new int[] {users(), scripts.size(), tape.length(), world.log.size(), past.size()}[what];
    }
}
