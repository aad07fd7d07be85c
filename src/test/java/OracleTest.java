import java.lang.reflect.InvocationTargetException;
import java.lang.reflect.Method;
import java.util.ArrayList;
import java.util.Arrays;
import java.util.Comparator;
import java.util.List;
import java.util.Random;

/**
 * Runs of calls by fixed seeds, on a BurstPeeler and on the NaiveModel: each answer must be the same.
 * An argument tells how many runs (1500 without).
 */
public final class OracleTest {
    private static final int CALLS = 130;
    private static final String SIGNS = "sudnfczpgtabkqrx;; 0123456789\u00e9";
    private static final List<Method> METHODS = faceMethods();
    private static int compared = 0;

    private final Random random;
    private final BurstPeeler peeler = new BurstPeeler();
    private final NaiveModel model = new NaiveModel();
    private final List<String> told = new ArrayList<>();

    private OracleTest(long seed) {
        random = new Random(seed);
    }

    private static List<Method> faceMethods() {
        List<Method> found = new ArrayList<>();
        for (Method m : BurstPeeler.class.getDeclaredMethods()) {
            if (java.lang.reflect.Modifier.isPublic(m.getModifiers())) {
                found.add(m);
            }
        }
        found.sort(Comparator.comparing(Method::getName));
        return found;
    }

    private int below(int n) {
        return random.nextInt(n);
    }

    private int someInt() {
        int sort = below(100);
        if (sort < 55) {
            return below(5);
        }
        if (sort < 78) {
            return below(14) - 2;
        }
        if (sort < 90) {
            return below(52);
        }
        if (sort < 98) {
            return below(104) - 1;
        }
        return new int[] {Integer.MIN_VALUE, Integer.MAX_VALUE, 999, 1000, -1000000}[below(5)];
    }

    private String blanks() {
        return below(8) == 0 ? " ".repeat(1 + below(2)) : "";
    }

    private String item(char letter, int value) {
        return blanks() + letter + blanks() + (below(10) == 0 && value < 1000 ? "0" : "") + value;
    }

    private int bitsOf(int slots, int wanted) {
        int bits = 0;
        for (int i = 0; i < wanted; i++) {
            bits |= 1 << below(slots);
        }
        return bits;
    }

    private String fieldText() {
        boolean isLargest = below(12) == 0;
        int slots = isLargest ? 12 : 2 + below(below(3) == 0 ? 11 : 5);
        int frames = isLargest ? 4 : 1 + below(4);
        List<String> clauses = new ArrayList<>();
        StringBuilder rules = new StringBuilder("s");
        rules.append(item('n', slots));
        rules.append(item('f', frames));
        rules.append(below(2) == 0 ? item('c', below(3) == 0 ? below(100) : below(25)) : "");
        rules.append(below(3) == 0 ? item('z', below(3) == 0 ? below(100) : below(10)) : "");
        clauses.add(rules.toString());
        int users = 1 + below(10);
        for (int i = 0; i < users; i++) {
            clauses.add(userClause(slots, frames));
        }
        for (int i = below(2) * below(7); i > 0; i--) {
            clauses.add("d" + (below(5) == 0 ? "" : item('k', 1 + below(6)))
                + (below(3) == 0 ? "" : item('q', 1 + below(below(2) == 0 ? 99 : 5))));
        }
        java.util.Collections.shuffle(clauses, random);
        return String.join(blanks() + ";" + blanks(), clauses);
    }

    private String userClause(int slots, int frames) {
        int frame = below(frames);
        List<String> items = new ArrayList<>();
        if (below(2) == 0) {
            items.add(item('p', 1 + below(99)));
        }
        if (below(3) == 0) {
            items.add(item('g', 1 + below(9)));
        }
        if (frame != 0 || below(5) == 0) {
            items.add(item('t', frame));
        }
        items.add(item('a', bitsOf(slots, below(4))));
        if (frame + 1 < frames) {
            items.add(item('b', bitsOf(slots, below(3))));
        }
        java.util.Collections.shuffle(items, random);
        return "u" + String.join("", items);
    }

    private String scriptText() {
        List<String> steps = new ArrayList<>();
        int wanted = 1 + below(below(6) == 0 ? 18 : 6);
        for (int i = 0; i < wanted; i++) {
            int kind = below(6);
            char letter = "prtfxc".charAt(kind);
            String number = kind < 2 ? "" : kind < 5 ? "" + below(10) : "" + below(below(5) == 0 ? 10000 : 40);
            steps.add(blanks() + letter + blanks() + number + blanks());
        }
        return String.join(";", steps);
    }

    /** A text with some signs changed, so that most are wrong somewhere. */
    private String spoilt(String text) {
        StringBuilder s = new StringBuilder(text);
        for (int i = 1 + below(2); i > 0 && s.length() > 0; i--) {
            int at = below(s.length());
            char sign = SIGNS.charAt(below(SIGNS.length()));
            int how = below(4);
            if (how == 0) {
                s.deleteCharAt(at);
            } else if (how == 1) {
                s.setLength(at);
            } else if (how == 2) {
                s.insert(at, sign);
            } else {
                s.setCharAt(at, sign);
            }
        }
        return s.toString();
    }

    private void putText(String text) {
        call("end", 0);
        for (int from = 0; from < text.length(); from += 20) {
            int[] words = Check.words(text.substring(from, Math.min(from + 20, text.length())));
            call("feed", words[0], words[1], words[2], words[3], words[4]);
        }
        call("fault", 0);
        call("fault", 1);
    }

    private void tellField() {
        putText(fieldText());
        call("text", 0);
    }

    private void tellScript() {
        putText(scriptText());
        call("text", 1);
    }

    private void call(String name, Object... args) {
        for (Method m : METHODS) {
            if (m.getName().equals(name)) {
                compare(m, args);
                return;
            }
        }
        throw new IllegalStateException(name);
    }

    private Object answer(Object on, Method m, Object[] args) {
        try {
            return on.getClass().getMethod(m.getName(), m.getParameterTypes()).invoke(on, args);
        } catch (InvocationTargetException e) {
            return "throws." + e.getCause().getClass().getName();
        } catch (ReflectiveOperationException e) {
            throw new IllegalStateException(e);
        }
    }

    private void compare(Method m, Object[] args) {
        Object got = answer(peeler, m, args);
        Object want = answer(model, m, args);
        compared++;
        told.add(m.getName() + Arrays.toString(args) + " -> " + got);
        if (!got.equals(want)) {
            told.forEach(System.out::println);
            System.out.println("the last answer is wrong, due is " + want);
            System.exit(1);
        }
    }

    private void callAny() {
        Method m = METHODS.get(below(METHODS.size()));
        if (m.getName().equals("text") || m.getName().equals("end") && below(3) != 0) {
            return;
        }
        Class<?>[] types = m.getParameterTypes();
        Object[] args = new Object[types.length];
        for (int i = 0; i < args.length; i++) {
            boolean isLong = types[i] == long.class;
            args[i] = isLong ? (Object) (below(2) == 0 ? random.nextLong() : (long) below(20)) : (Object) someInt();
        }
        compare(m, args);
    }

    private void callAct() {
        String[] acts = {"peel", "round", "tell", "forget", "turn", "capture", "draw", "swap", "file", "file"};
        String name = acts[below(acts.length)];
        switch (name) {
            case "peel": case "round": call(name); break;
            case "capture": call(name, below(30)); break;
            case "turn": call(name, below(10), below(48)); break;
            case "draw": call(name, below(10), random.nextLong()); break;
            case "swap": call(name, below(10), below(10)); break;
            case "file": call(name, below(3), below(10)); break;
            default: call(name, below(10)); break;
        }
    }

    /** All that can be asked of how it is now, so that no wrong state stays unseen. */
    private void lookAtAll() {
        for (int u = -1; u <= 10; u++) {
            call("copies", u);
            for (int what = -1; what <= 6; what++) {
                call("user", u, what);
            }
        }
        for (int i = -1; i <= 61; i++) {
            call("log", i, below(3));
        }
        for (int s = -1; s <= 3; s++) {
            call("status", s);
            call("step", s, below(16), below(2));
            for (int place = -1; place <= 10; place++) {
                call("shelf", s, place);
            }
        }
        for (int what = -1; what <= 9; what++) {
            call("rule", what);
            call("count", what);
            call("most", what);
        }
    }

    /** Every question about what would come, of USERS, SLOTS and FRAMES that are mostly there. */
    private void askAll() {
        int users = Math.max(1, peeler.count(0));
        int slots = Math.max(1, peeler.rule(4));
        for (int u = 0; u < users; u++) {
            call("strength", u);
            call("user", u, 5);
            call("blame", u);
            call("more", u, below(2));
            call("slidAt", u, 1 + below(4));
            call("touch", u, below(users));
            for (int s = 0; s < slots; s++) {
                call(new String[] {"din", "margin", "clear"}[below(3)], u, s);
            }
        }
        for (int s = 0; s < slots; s++) {
            call("slot", s, below(4));
        }
        for (int what = 0; what < 5; what++) {
            call("solved", what);
            call("stuck", what);
            call("less", what);
            call("key", what);
            call("slid", what);
            call("ahead", what);
            call("frame", below(4), what);
            call("fewest", what & 1, what >> 1);
            call("run", what & 1, what >> 1);
        }
        call("tight");
        call("jam", below(users), below(4), below(101));
        call("share", 1 + below(60), below(41));
    }

    private void live() {
        if (below(10) == 0) {
            callAny();
        }
        tellField();
        tellScript();
        for (int i = 0; i < CALLS; i++) {
            int sort = below(100);
            if (sort < 62) {
                callAny();
            } else if (sort < 90) {
                callAct();
            } else if (sort < 92) {
                call("years", 1 + below(40), random.nextLong());
            } else if (sort < 94) {
                putText(spoilt(below(2) == 0 ? fieldText() : scriptText()));
            } else if (sort < 95) {
                tellScript();
            } else if (sort < 96) {
                if (below(3) == 0) {
                    tellField();
                }
            } else if (sort < 97) {
                askAll();
            } else {
                call(new String[] {"undo", "undo", "image", "back"}[below(4)]);
            }
        }
        lookAtAll();
    }

    public static void main(String[] args) {
        int runs = args.length > 0 ? Integer.parseInt(args[0]) : 1500;
        long first = args.length > 1 ? Long.parseLong(args[1]) : 1L;
        for (long seed = first; seed < first + runs; seed++) {
            new OracleTest(seed).live();
        }
        System.out.println(runs + " runs, " + compared + " answers compared, all the same");
    }
}
