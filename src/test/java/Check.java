/** What tests share: answers compared, and texts sent by sign() and end(). */
final class Check {
    private static final int MOST_TOLD = 20;

    private int asked;
    private int wrong;

    void due(String call, long got, long want) {
        asked++;
        if (got != want) {
            wrong++;
            if (wrong <= MOST_TOLD) {
                System.out.println(call + " answered " + got + ", due is " + want);
            }
        }
    }

    void due(String call, boolean got, boolean want) {
        due(call, got ? 1 : 0, want ? 1 : 0);
    }

    int asked() {
        return asked;
    }

    int wrong() {
        return wrong;
    }

    /** Ends the test: exit code 1 if an answer was wrong. */
    void close(String test) {
        System.out.println(test + ": " + asked + " answers, " + wrong + " wrong");
        if (wrong > 0 || asked == 0) {
            System.exit(1);
        }
    }

    /** Puts a text where there is none yet. */
    static void text(StruckCounts x, String text) {
        x.end(0);
        for (int i = 0; i < text.length(); i += 4) {
            int v = 0;
            for (int j = i; j < i + 4; j++) {
                v = v << 8 | (j < text.length() ? text.charAt(j) & 255 : ' ');
            }
            x.sign(v);
        }
        x.end(text.length());
    }

    static int suit(StruckCounts x, String text) {
        text(x, text);
        return x.suit();
    }

    static int ask(StruckCounts x, String text) {
        text(x, text);
        return x.ask();
    }

    static StruckCounts suited(String text) {
        StruckCounts x = new StruckCounts();
        if (suit(x, text) < 0) {
            throw new IllegalStateException("fault " + x.fault(0) + " at " + x.fault(1) + " of " + text);
        }
        return x;
    }

    /** A text that is no SUIT: which fault, and where, as ^ marks it (which is no sign of the text). */
    void fault(int fault, String marked) {
        StruckCounts x = new StruckCounts();
        int place = marked.indexOf('^');
        String text = marked.replace("^", "");
        due("suit() of " + marked, suit(x, text), StruckCounts.NONE);
        due("fault(0) of " + marked, x.fault(0), fault);
        due("fault(1) of " + marked, x.fault(1), place);
    }

    /** Likewise of a question, asked of a suit. */
    void questionFault(StruckCounts x, int fault, String marked) {
        int place = marked.indexOf('^');
        due("ask() of " + marked, ask(x, marked.replace("^", "")), StruckCounts.NONE);
        due("fault(0) of " + marked, x.fault(0), fault);
        due("fault(1) of " + marked, x.fault(1), place);
    }

    /** A text that is a SUIT of so many lines. */
    StruckCounts right(int lines, String text) {
        StruckCounts x = new StruckCounts();
        due("suit() of " + text, suit(x, text), lines);
        due("fault(0) of " + text, x.fault(0), 0);
        due("fault(1) of " + text, x.fault(1), StruckCounts.NONE);
        return x;
    }
}
