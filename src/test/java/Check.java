/** Counts answers that are not as due, and feeds texts to an object. */
final class Check {
    private final String test;
    private int wrong = 0;
    private int asked = 0;

    Check(String test) {
        this.test = test;
    }

    void due(String what, long got, long want) {
        asked++;
        if (got != want) {
            wrong++;
            System.out.println(test + ": " + what + " answered " + got + ", due is " + want);
        }
    }

    void due(String what, boolean got, boolean want) {
        due(what, got ? 1 : 0, want ? 1 : 0);
    }

    /** The text has this fault at the place of the mark ^ in it (which is not of the text). */
    void fault(int number, String marked) {
        String text = marked.replace("^", "");
        WhistleRoster x = new WhistleRoster();
        feed(x, text);
        due("week() of " + text, x.week(), -1);
        due("fault(0) of " + text, x.fault(0), number);
        due("fault(1) of " + text, x.fault(1), marked.indexOf('^'));
    }

    void fine(String text, int games) {
        WhistleRoster x = new WhistleRoster();
        feed(x, text);
        due("week() of " + text, x.week(), games);
        due("fault(0) of " + text, x.fault(0), 0);
        due("fault(1) of " + text, x.fault(1), -1);
    }

    interface Call {
        long ask();
    }

    void throwsOut(String what, Class<? extends RuntimeException> kind, Call call) {
        asked++;
        String got;
        try {
            got = "answered " + call.ask();
        } catch (RuntimeException e) {
            got = e.getClass() == kind ? null : "threw " + e;
        }
        if (got != null) {
            wrong++;
            System.out.println(test + ": " + what + " " + got + ", due is " + kind.getSimpleName());
        }
    }

    void close() {
        System.out.println(test + ": " + asked + " answers, " + wrong + " not as due");
        if (wrong != 0) {
            System.exit(1);
        }
    }

    static void feed(WhistleRoster x, String text) {
        int[] n = new int[5];
        for (int at = 0; at < text.length(); at += 20) {
            for (int k = 0; k < 20; k++) {
                n[k / 4] = n[k / 4] << 8 | (at + k < text.length() ? text.charAt(at + k) : ' ');
            }
            x.feed(n[0], n[1], n[2], n[3], n[4]);
        }
        x.end(text.length());
    }

    static WhistleRoster of(String text) {
        WhistleRoster x = new WhistleRoster();
        feed(x, text);
        if (x.week() < 0) {
            throw new IllegalStateException("fault " + x.fault(0) + " at " + x.fault(1) + " of: " + text);
        }
        return x;
    }
}
