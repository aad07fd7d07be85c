import java.util.NoSuchElementException;

/** What the tests share: counting wrong answers, and putting texts on the TAPE. */
final class Check {
    private static int wrong = 0;
    private static int done = 0;
    private static String about = "";

    private Check() {
    }

    /** What the answers that follow are about: told with each wrong one. */
    static void about(String words) {
        about = words + ": ";
    }

    static void due(String call, long got, long want) {
        done++;
        if (got != want) {
            wrong++;
            System.out.println(about + call + " answered " + got + ", due is " + want);
        }
    }

    static void due(String call, boolean got, boolean want) {
        due(call, got ? 1L : 0L, want ? 1L : 0L);
    }

    static void throwsNoSuchElement(BurstPeeler peeler, int user, int what) {
        boolean thrown = false;
        try {
            peeler.user(user, what);
        } catch (NoSuchElementException e) {
            thrown = true;
        }
        due("user(" + user + ", " + what + ") throws", thrown, true);
    }

    /** The TAPE holds just this text then; what feed answered last. */
    static int tape(BurstPeeler peeler, String text) {
        peeler.end(0);
        int answer = 0;
        for (int from = 0; from < text.length(); from += 20) {
            int[] words = words(text.substring(from, Math.min(from + 20, text.length())));
            answer = peeler.feed(words[0], words[1], words[2], words[3], words[4]);
        }
        return answer;
    }

    static int[] words(String text) {
        int[] words = new int[5];
        for (int i = 0; i < text.length(); i++) {
            words[i / 4] |= (text.charAt(i) & 255) << (24 - 8 * (i % 4));
        }
        return words;
    }

    static BurstPeeler withField(String text) {
        BurstPeeler peeler = new BurstPeeler();
        tape(peeler, text);
        int users = peeler.text(0);
        if (users < 1) {
            due("text(0) of '" + text + "' is a FIELD", false, true);
        }
        return peeler;
    }

    static int script(BurstPeeler peeler, String text) {
        tape(peeler, text);
        return peeler.text(1);
    }

    /** The FAULT of a text, which text() refuses then and leaves on the TAPE. */
    static void faultIs(int sort, String text, int want) {
        BurstPeeler x = new BurstPeeler();
        tape(x, text);
        due("fault(" + sort + ") of '" + text + "'", x.fault(sort), want);
        due("bytes behind fault of '" + text + "'", x.count(2), text.length());
        due("text(" + sort + ") of '" + text + "' is refused", x.text(sort) == BurstPeeler.NONE, want != BurstPeeler.NONE);
        due("bytes behind text of '" + text + "'", x.count(2), want == BurstPeeler.NONE ? 0 : text.length());
    }

    static void finish() {
        System.out.println(done + " answers looked at, " + wrong + " wrong");
        if (wrong != 0) {
            System.exit(1);
        }
    }
}
