/** What all tests use: answers that are due, and texts for the tape. */
final class Check {
    private final String test;
    private String sentence = "";
    private int wrong = 0;
    private int asked = 0;

    Check(String test) {
        this.test = test;
    }

    /** What comes next tests this sentence of this part of the document ("Terms 1", "Promise 5"). */
    void says(String part, String words) {
        sentence = "";
        due(part + " says <" + words + ">", Doc.says(part, words), true);
        sentence = part + " <" + words + ">: ";
    }

    void due(String call, long got, long want) {
        asked++;
        if (got != want) {
            wrong++;
            System.out.println(test + ": " + sentence + call + " answered " + got + ", due is " + want);
        }
    }

    void due(String call, String got, String want) {
        asked++;
        if (!got.equals(want)) {
            wrong++;
            System.out.println(test + ": " + sentence + call + " answered\n  " + got + ", due is\n  " + want);
        }
    }

    void due(String call, boolean got, boolean want) {
        due(call, got ? 1 : 0, want ? 1 : 0);
    }

    /** A call that answers with NONE and this STATUS. */
    void refused(MarginPlan x, String call, long got, int status) {
        due(call, got, MarginPlan.NONE);
        due(call + ", status", x.status(), status);
    }

    void refused(MarginPlan x, String call, boolean got, int status) {
        due(call, got, false);
        due(call + ", status", x.status(), status);
    }

    /** A call that answers with this and STATUS 0. */
    void fine(MarginPlan x, String call, long got, long want) {
        due(call, got, want);
        due(call + ", status", x.status(), 0);
    }

    void fine(MarginPlan x, String call, boolean got) {
        due(call, got, true);
        due(call + ", status", x.status(), 0);
    }

    /** A call that tells this FRACTION. */
    void fraction(MarginPlan x, String call, boolean got, long top, long bottom) {
        fine(x, call, got);
        due(call + ", top", x.top(), top);
        due(call + ", bottom", x.bottom(), bottom);
    }

    /** A call that tells this FRACTION, which here may still have a common divisor. */
    void reduced(MarginPlan x, String call, boolean got, long top, long bottom) {
        long by = divisor(bottom, top);
        fraction(x, call, got, top / by, bottom / by);
    }

    private static long divisor(long a, long b) {
        return b == 0 ? a : divisor(b, a % b);
    }

    void end() {
        System.out.println(test + ": " + asked + " answers, " + wrong + " wrong");
        if (wrong != 0) {
            System.exit(1);
        }
    }

    /** The text comes behind what is on the tape, with blanks up to whole feeds. */
    static int feed(MarginPlan x, String text) {
        int many = 0;
        for (int i = 0; i < text.length(); i += 20) {
            many = x.feed(four(text, i), four(text, i + 4), four(text, i + 8), four(text, i + 12), four(text, i + 16));
        }
        return many;
    }

    private static int four(String text, int at) {
        int word = 0;
        for (int i = at; i < at + 4; i++) {
            word = word << 8 | (i < text.length() ? text.charAt(i) : ' ');
        }
        return word;
    }

    static void emptyTape(MarginPlan x) {
        x.rounds(0);
    }

    static int book(MarginPlan x, String text) {
        feed(x, text);
        return x.book(text.length());
    }

    static int rounds(MarginPlan x, String text) {
        feed(x, text);
        return x.rounds(text.length());
    }

    /** A new object with this BOOK. */
    static MarginPlan with(String text) {
        MarginPlan x = new MarginPlan();
        book(x, text);
        if (x.status() != 0) {
            throw new IllegalStateException("the test's book has a fault: " + text);
        }
        return x;
    }

    void bookFault(MarginPlan x, String text, int fault, int place) {
        refused(x, "book of <" + text + ">", book(x, text), 10);
        due("fault(0) of <" + text + ">", x.fault(0), fault);
        due("fault(1) of <" + text + ">", x.fault(1), place);
    }

    void roundsFault(MarginPlan x, String text, int fault, int place) {
        refused(x, "rounds of <" + text + ">", rounds(x, text), 10);
        due("fault(0) of <" + text + ">", x.fault(0), fault);
        due("fault(1) of <" + text + ">", x.fault(1), place);
    }

    static String times(String text, int many) {
        StringBuilder all = new StringBuilder();
        for (int i = 0; i < many; i++) {
            all.append(text);
        }
        return all.toString();
    }
}
