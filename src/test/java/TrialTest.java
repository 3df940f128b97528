/** Promises 26 to 42: what is left for trial. */
final class TrialTest {
    private static final int NONE = StruckCounts.NONE;
    private static final int[] NO_COUNTS = {-1, 3, 8, 31, 32, Integer.MAX_VALUE, Integer.MIN_VALUE};
    private static final int[] NO_WHATS = {-1, 2, 32, Integer.MAX_VALUE, Integer.MIN_VALUE};
    /** p is won in ab, ac, abc; q in c, bc; r, of one injury with p, in a, ab, ac, abc. */
    private static final String SUIT = "fact a 6;fact b 5;fact c 2;"
            + "count p worth 100 arose 1 needs a needs b|c;count q worth 40 arose 1 needs c;plea q a;"
            + "count r worth 70 arose 1 needs a;same p r;says p a;says p b;says q c;says q !a;says r a;";

    private final Check check = new Check();

    public static void main(String[] args) {
        TrialTest test = new TrialTest();
        test.promise26();
        test.promise27();
        test.promise28();
        test.promise28Nevers();
        test.promise29();
        test.promise30();
        test.promise30Injuries();
        test.promise31();
        test.promise32and33();
        test.promise34and35();
        test.promise34Known();
        test.promise34Many();
        test.promise36and37();
        test.promise36Known();
        test.promise36Nevers();
        test.promise38();
        test.promise39();
        test.promise40();
        test.promise40Faults();
        test.promise41();
        test.promise42();
        test.pleas();
        test.most();
        test.check.close("TrialTest");
    }

    private void due(String call, long got, long want) {
        check.due(call, got, want);
    }

    private StruckCounts needing(String facts, String needs) {
        return Check.suited(facts + "count k worth 1 arose 1 needs " + needs + ";");
    }

    private void promise26() {
        StruckCounts x = Check.suited(SUIT);
        due("issues(0)", x.issues(0), 7);
        due("issues(1)", x.issues(1), 5);
        due("issues(2)", x.issues(2), 1);
        x.answer(1, 0);
        due("issues(0), b KNOWN not so", x.issues(0), 5);
        x.answer(2, 1);
        due("issues(0), c KNOWN, too", x.issues(0), 1);
        x.strike(0);
        due("STRUCK does not matter", x.issues(0), 1);
        for (int k : NO_COUNTS) {
            due("issues(" + k + ")", x.issues(k), NONE);
        }
        due("no WORLD alike but for a", needing("fact a;fact b;never a&!b;never b&!a;", "a").issues(0), 0);
        due("WON where nothing is so", needing("fact a;fact b;fact c;", "!a&!c").issues(0), 5);
        due("a FACT that nothing turns on", needing("fact a;fact b;", "a&(b|!b)").issues(0), 1);
        due("all eight", needing("fact a;fact b;fact c;fact d;fact e;fact f;fact g;fact h;",
                "a&b&c&d&e&f&g&h").issues(0), 255);
    }

    private void promise27() {
        StruckCounts x = Check.suited(SUIT);
        for (int k = 0; k < 3; k++) {
            due("judged(" + k + ")", x.judged(k), 2);
        }
        x.answer(0, 1);
        int[] judged = {2, 0, 1};
        for (int k = 0; k < 3; k++) {
            due("a KNOWN: judged(" + k + ")", x.judged(k), judged[k]);
        }
        x.strike(2);
        due("STRUCK does not matter", x.judged(2), 1);
        x.answer(1, 2);
        due("DENIED does not matter", x.judged(0), 2);
        x.close();
        x.find(1, true);
        due("b FOUND", x.judged(0), 1);
        for (int k : NO_COUNTS) {
            due("judged(" + k + ")", x.judged(k), NONE);
        }
    }

    private void tries(String what, StruckCounts x, int many, int first) {
        due("tries 0: " + what, x.tries(0, 0), many);
        due("tries 1: " + what, x.tries(0, 1), first);
    }

    private void promise28() {
        String abc = "fact a;fact b;fact c;";
        tries("a", needing(abc, "a"), 1, 0);
        tries("b", needing(abc, "b"), 1, 1);
        tries("all or none", needing(abc, "a|!a"), 0, -2);
        tries("none", needing(abc, "a&!a"), 0, -2);
        tries("b or c", needing(abc, "b|c"), 2, 1);
        tries("two of three", needing(abc, "2 of(a,b,c)"), 3, 0);
        tries("chosen by what the one ahead told", needing(abc, "b&a|!b&c"), 2, 1);
        tries("which fact first does not matter", needing(abc, "a&(b|c)"), 3, 0);
        tries("by five", needing(abc + "fact d;fact e;", "c&(a&b|!a&d)|!c&(a&e|!a&b)"), 3, 0);
        tries("all eight at odds", needing(abc + "fact d;fact e;fact f;fact g;fact h;",
                "!(a&b&c&d&e&f&g&h)&(a|b|c|d|e|f|g|h)"), 8, 0);
        StruckCounts x = Check.suited(SUIT);
        due("tries(1, 0)", x.tries(1, 0), 2);
        due("tries(1, 1)", x.tries(1, 1), 0);
        x.answer(0, 1);
        due("a KNOWN: p", x.tries(0, 0), 2);
        due("a KNOWN: p first", x.tries(0, 1), 1);
        due("a KNOWN: q", x.tries(1, 0), 0);
        due("a KNOWN: q first", x.tries(1, 1), -2);
        x.answer(1, 2);
        due("DENIED is not KNOWN", x.tries(0, 1), 1);
        x.strike(0);
        due("STRUCK does not matter", x.tries(0, 0), 2);
        for (int k : NO_COUNTS) {
            due("tries(" + k + ", 0)", x.tries(k, 0), NONE);
            due("tries(" + k + ", 1)", x.tries(k, 1), NONE);
        }
        for (int what : NO_WHATS) {
            due("tries(0, " + what + ")", x.tries(0, what), NONE);
            due("tries(1, " + what + "), none needed", x.tries(1, what), NONE);
        }
    }

    private void promise28Nevers() {
        tries("what one FACT tells of another", needing("fact a;fact b;never a&!b;never b&!a;", "b"), 1, 0);
        tries("one at most", needing("fact a;fact b;fact c;never 2 of(a,b,c);", "a|b"), 2, 0);
        tries("just one", needing("fact a;fact b;fact c;never 2 of(a,b,c);never !a&!b&!c;", "a|b"), 1, 2);
        tries("by a NEVER none", needing("fact a;fact b;never a;", "a&b"), 0, -2);
    }

    private void chance(String what, StruckCounts x, int k, long upper, long lower) {
        due("chance 0: " + what, x.chance(k, 0), upper);
        due("chance 1: " + what, x.chance(k, 1), lower);
    }

    private void promise29() {
        StruckCounts x = Check.suited(SUIT);
        chance("p", x, 0, 9, 25);
        chance("q", x, 1, 2, 25);
        chance("r", x, 2, 3, 5);
        x.answer(0, 1);
        chance("p, a KNOWN", x, 0, 3, 5);
        chance("q, a KNOWN", x, 1, 0, 1);
        chance("r, a KNOWN", x, 2, 1, 1);
        x.strike(0);
        chance("STRUCK does not matter", x, 0, 3, 5);
        for (int k : NO_COUNTS) {
            due("chance(" + k + ", 0)", x.chance(k, 0), NONE);
        }
        for (int what : NO_WHATS) {
            due("chance(0, " + what + ")", x.chance(0, what), NONE);
        }
        // 9 * 1 of 9 * 1, 1 * 9, 1 * 1.
        chance("by a NEVER", needing("fact a 9;fact b 1;never a&b;", "a"), 0, 81, 91);
        String eight = "fact a 9;fact b 9;fact c 9;fact d 9;fact e 9;fact f 9;fact g 9;fact h 9;";
        chance("eight", needing(eight, "a&b&c&d&e&f&g&h"), 0, 43046721, 100000000);
        chance("but eight", needing(eight, "!(a&b&c&d&e&f&g&h)"), 0, 56953279, 100000000);
        chance("none of them", needing(eight, "!(a|b|c|d|e|f|g|h)"), 0, 1, 100000000);
    }

    private void promise30() {
        StruckCounts x = Check.suited(SUIT);
        due("award(0)", x.award(0), 0);
        due("award(1)", x.award(1), 100);
        due("award(2)", x.award(2), 3);
        for (int what : new int[] {-1, 3, Integer.MAX_VALUE, Integer.MIN_VALUE}) {
            due("award(" + what + ")", x.award(what), NONE);
        }
        x.strike(0);
        due("p STRUCK: award(1)", x.award(1), 70);
        due("p STRUCK: award(2)", x.award(2), 1);
        x.strike(2);
        due("p, r STRUCK: award(1)", x.award(1), 40);
        due("p, r STRUCK: award(2)", x.award(2), 4);
        x.answer(2, 0);
        due("c KNOWN not so: award(1)", x.award(1), 0);
        due("c KNOWN not so: award(2)", x.award(2), 0);
        x = Check.suited(SUIT);
        x.answer(0, 1);
        due("a KNOWN: award(0)", x.award(0), 70);
        due("a KNOWN: award(1)", x.award(1), 100);
        x.say(0, 0, 2);
        due("p does not STAND: award(1)", x.award(1), 70);
        x = Check.suited("fact a;fact b;count p worth 9 arose 1 needs a&!b;count q worth 9 arose 1 needs b&!a;"
                + "says p a;says p !b;says q b;says q !a;");
        due("the first of two WORLDS with as much", x.award(2), 1);
    }

    private void promise30Injuries() {
        StruckCounts x = Check.suited("fact a;fact b;count p worth 100 arose 1 needs a;"
                + "count q worth 40 arose 1 needs b;count r worth 70 arose 1 needs a;"
                + "count s worth 60 arose 1 needs b;same r q;says p a;says q b;says r a;says s b;");
        due("unlike injuries together, one once", x.award(1), 230);
        due("in ab alone", x.award(2), 3);
        x.add(0, 120, 1);
        due("one more does not STAND yet", x.award(1), 230);
        x.say(4, 0, 1);
        due("made like p, it is paid for p", x.award(1), 250);
        x.add(4, 500, 1);
        x.say(5, 0, 1);
        due("and like the one made like p", x.award(1), 630);
        x.strike(2);
        due("r STRUCK, q is paid", x.award(1), 600);
        x.add(2, 45, 1);
        x.say(6, 0, 1);
        due("made like the STRUCK r, of the injury of q", x.award(1), 605);
    }

    private void meant(String what, StruckCounts x, long upper, long lower) {
        due("meant 0: " + what, x.meant(0), upper);
        due("meant 1: " + what, x.meant(1), lower);
    }

    private void promise31() {
        StruckCounts x = Check.suited(SUIT);
        // 70 by 24, 100 by 36 and 40 by 8 of 100.
        meant("SUIT", x, 56, 1);
        x.answer(0, 0);
        meant("a KNOWN not so", x, 8, 1);
        x.answer(2, 0);
        meant("nothing", x, 0, 1);
        meant("a third", Check.suited("fact a;fact b;never a&b;count k worth 100 arose 1 needs a;says k a;"),
                100, 3);
        for (int what : NO_WHATS) {
            due("meant(" + what + ")", x.meant(what), NONE);
        }
        String eight = "fact a 9;fact b 9;fact c 9;fact d 9;fact e 9;fact f 9;fact g 9;fact h 9;";
        x = needing(eight, "!(a&b&c&d&e&f&g&h)");
        x.add(0, 999, 1);
        x.say(1, 0, 0);
        // 999 by 56953279 of 100000000: more than an int holds.
        meant("long", x, 999L * 56953279, 100000000);
    }

    private void promise32and33() {
        StruckCounts x = Check.suited(SUIT);
        due("outcomes()", x.outcomes(), 4);
        int[][] outcomes = {{0, 2, 0}, {4, 1, 1}, {5, 3, 3}, {2, 2, 4}};
        for (int i = 0; i < 4; i++) {
            for (int what = 0; what < 3; what++) {
                due("outcome(" + i + ", " + what + ")", x.outcome(i, what), outcomes[i][what]);
            }
            for (int what : new int[] {-1, 3, Integer.MAX_VALUE, Integer.MIN_VALUE}) {
                due("outcome(" + i + ", " + what + ")", x.outcome(i, what), NONE);
            }
        }
        for (int i : new int[] {-1, 4, 256, Integer.MAX_VALUE, Integer.MIN_VALUE}) {
            due("outcome(" + i + ", 0)", x.outcome(i, 0), NONE);
        }
        x.strike(2);
        due("r STRUCK: outcomes()", x.outcomes(), 3);
        due("r STRUCK: the first", x.outcome(0, 1), 3);
        due("r STRUCK: the second", x.outcome(1, 0), 1);
        x.answer(0, 1);
        due("a KNOWN: outcomes()", x.outcomes(), 2);
        due("a KNOWN: the first WORLD", x.outcome(0, 2), 1);
        x.answer(1, 1);
        due("b KNOWN, too", x.outcomes(), 1);
        due("its set", x.outcome(0, 0), 1);
        due("its WORLDS", x.outcome(0, 1), 2);
        due("new", new StruckCounts().outcomes(), 1);
    }

    private void proofs(StruckCounts x, int k, boolean won, int[][] want) {
        String call = k + ", " + won;
        due("proofs(" + call + ")", x.proofs(k, won), want.length);
        for (int i = 0; i < want.length; i++) {
            due("proof(" + call + ", " + i + ", 0)", x.proof(k, won, i, 0), want[i][0]);
            due("proof(" + call + ", " + i + ", 1)", x.proof(k, won, i, 1), want[i][1]);
        }
        due("proof(" + call + "), the next, 0", x.proof(k, won, want.length, 0), NONE);
        due("proof(" + call + "), the next, 1", x.proof(k, won, want.length, 1), NONE);
    }

    private void promise34and35() {
        StruckCounts x = Check.suited(SUIT);
        proofs(x, 0, true, new int[][] {{3, 3}, {5, 5}});
        proofs(x, 0, false, new int[][] {{1, 0}, {6, 0}});
        proofs(x, 1, true, new int[][] {{5, 4}});
        proofs(x, 1, false, new int[][] {{1, 1}, {4, 0}});
        proofs(x, 2, true, new int[][] {{1, 1}});
        proofs(x, 2, false, new int[][] {{1, 0}});
        x.strike(0);
        proofs(x, 0, false, new int[][] {{1, 0}, {6, 0}});
        for (int k : NO_COUNTS) {
            due("proofs(" + k + ", true)", x.proofs(k, true), NONE);
            due("proofs(" + k + ", false)", x.proofs(k, false), NONE);
            due("proof(" + k + ", true, 0, 0)", x.proof(k, true, 0, 0), NONE);
        }
        for (int what : NO_WHATS) {
            due("proof(0, true, 0, " + what + ")", x.proof(0, true, 0, what), NONE);
        }
        for (int i : new int[] {-1, -2, 2, 6561, Integer.MAX_VALUE, Integer.MIN_VALUE}) {
            due("proof(0, true, " + i + ", 0)", x.proof(0, true, i, 0), NONE);
        }
    }

    private void promise34Known() {
        StruckCounts x = Check.suited(SUIT);
        x.answer(0, 1);
        proofs(x, 0, true, new int[][] {{2, 2}, {4, 4}});
        proofs(x, 0, false, new int[][] {{6, 0}});
        proofs(x, 1, true, new int[0][]);
        proofs(x, 1, false, new int[][] {{0, 0}});
        proofs(x, 2, true, new int[][] {{0, 0}});
        proofs(x, 2, false, new int[0][]);
        x.answer(1, 0);
        x.answer(2, 0);
        proofs(x, 0, false, new int[][] {{0, 0}});
        proofs(x, 0, true, new int[0][]);
        // By the NEVER b is enough, and so is c; a with b is no WORLD.
        StruckCounts y = needing("fact a;fact b;fact c;never a&b;never a&c;", "!a");
        proofs(y, 0, true, new int[][] {{1, 0}, {2, 2}, {4, 4}});
        proofs(y, 0, false, new int[][] {{1, 1}});
    }

    private void promise34Many() {
        String eight = "fact a;fact b;fact c;fact d;fact e;fact f;fact g;fact h;";
        StruckCounts x = needing(eight, "4 of(a,b,c,d,e,f)");
        due("4 of 6", x.proofs(0, true), 15);
        due("3 not so of 6", x.proofs(0, false), 20);
        due("the last of 4 of 6", x.proof(0, true, 14, 0), 60);
        due("none behind it", x.proof(0, true, 15, 0), NONE);
        due("none there", x.proof(0, true, Integer.MAX_VALUE, 0), NONE);
        x = needing(eight, "a&!b|!a&b");
        proofs(x, 0, true, new int[][] {{3, 1}, {3, 2}});
        proofs(x, 0, false, new int[][] {{3, 0}, {3, 3}});
        x = needing(eight, "a|!a");
        proofs(x, 0, true, new int[][] {{0, 0}});
        proofs(x, 0, false, new int[0][]);
        x = needing(eight, "a&b&c&d&!e&!f&!g&!h");
        proofs(x, 0, true, new int[][] {{255, 15}});
        x = needing(eight, "a&b&c&d&e&f&g&h");
        proofs(x, 0, true, new int[][] {{255, 255}});
    }

    private void duel(StruckCounts x, int k, int first, int wins, int fact, int so) {
        String call = "(" + k + ", " + first;
        due("duel" + call + ")", x.duel(k, first), wins);
        due("turn" + call + ", 0)", x.turn(k, first, 0), fact);
        due("turn" + call + ", 1)", x.turn(k, first, 1), so);
    }

    private void promise36and37() {
        StruckCounts x = Check.suited(SUIT);
        duel(x, 0, 0, 1, 0, 1);
        duel(x, 0, 1, 0, 0, 0);
        duel(x, 1, 0, 0, -2, -2);
        duel(x, 1, 1, 0, 0, 1);
        duel(x, 2, 0, 1, 0, 1);
        duel(x, 2, 1, 0, 0, 0);
        x.strike(0);
        duel(x, 0, 0, 1, 0, 1);
        for (int k : NO_COUNTS) {
            due("duel(" + k + ", 0)", x.duel(k, 0), NONE);
            due("turn(" + k + ", 0, 0)", x.turn(k, 0, 0), NONE);
        }
        for (int bad : NO_WHATS) {
            due("duel(0, " + bad + ")", x.duel(0, bad), NONE);
            due("turn(0, " + bad + ", 0)", x.turn(0, bad, 0), NONE);
            due("turn(0, 0, " + bad + ")", x.turn(0, 0, bad), NONE);
        }
        // Who takes the last of two decides whether they are alike.
        StruckCounts y = needing("fact a;fact b;", "a&b|!a&!b");
        duel(y, 0, 0, 0, -2, -2);
        duel(y, 0, 1, 1, -2, -2);
        y = needing("fact a;fact b;fact c;", "a&b|!a&!b");
        duel(y, 0, 0, 1, 2, 0);
        duel(y, 0, 1, 0, 2, 0);
    }

    private void promise36Known() {
        StruckCounts x = Check.suited(SUIT);
        x.answer(0, 1);
        duel(x, 0, 0, 1, 1, 1);
        duel(x, 0, 1, 1, -2, -2);
        x.answer(1, 0);
        duel(x, 0, 0, 1, 2, 1);
        duel(x, 0, 1, 0, 2, 0);
        x.answer(2, 1);
        duel(x, 0, 0, 1, -2, -2);
        duel(x, 0, 1, 1, -2, -2);
        duel(x, 1, 0, 0, -2, -2);
        duel(x, 1, 1, 0, -2, -2);
    }

    private void promise36Nevers() {
        // a so leaves b not so: then that is the only turn there is.
        StruckCounts x = needing("fact a;fact b;never a&b;", "b");
        duel(x, 0, 0, 1, 1, 1);
        duel(x, 0, 1, 0, 0, 1);
        x = needing("fact a;fact b;never a&b;never !a&!b;", "a");
        duel(x, 0, 0, 1, 0, 1);
        duel(x, 0, 1, 0, 0, 0);
        x = needing("fact a;fact b;never a&b;never !a&!b;", "b");
        duel(x, 0, 0, 1, 0, 0);
        duel(x, 0, 1, 0, 0, 1);
        x = needing("fact a;never a;", "!a");
        duel(x, 0, 0, 1, 0, 0);
        duel(x, 0, 1, 1, -2, -2);
    }

    private void promise38() {
        StruckCounts x = Check.suited(SUIT);
        int[] together = {1, 1, 1, 0, 1, 1, 0, 0};
        for (int set = 0; set < 8; set++) {
            due("together(" + set + ")", x.together(set), together[set]);
        }
        for (int set : new int[] {-1, 8, 9, 256, 1 << 30, Integer.MAX_VALUE, Integer.MIN_VALUE}) {
            due("together(" + set + ")", x.together(set), NONE);
        }
        x.strike(0);
        due("STRUCK does not matter", x.together(5), 1);
        x.add(1, 1, 1);
        due("an added one", x.together(10), 1);
        due("with one at odds", x.together(12), 0);
        x.answer(0, 1);
        due("a KNOWN", x.together(2), 0);
        due("of no COUNT", x.together(0), 1);
    }

    private void promise39() {
        StruckCounts x = Check.suited(SUIT);
        due("elect(0)", x.elect(0), 2);
        due("elect(1)", x.elect(1), 5);
        for (int what : NO_WHATS) {
            due("elect(" + what + ")", x.elect(what), NONE);
        }
        x.strike(2);
        due("r STRUCK: elect(0)", x.elect(0), 1);
        due("of as many the least", x.elect(1), 1);
        x.strike(0);
        due("p STRUCK: elect(1)", x.elect(1), 2);
        x.answer(2, 0);
        due("c KNOWN not so: elect(0)", x.elect(0), 0);
        due("c KNOWN not so: elect(1)", x.elect(1), 0);
        // q is won in the first WORLDS, p in later ones: the least bits count, not the first WORLD.
        x = Check.suited("fact a;count p worth 1 arose 1 needs a;count q worth 1 arose 1 needs !a;"
                + "says p a;says q !a;");
        due("the least bits", x.elect(1), 1);
        x.strike(0);
        due("WON where nothing is so: elect(0)", x.elect(0), 1);
        due("WON where nothing is so: elect(1)", x.elect(1), 2);
    }

    private void asked(String what, StruckCounts x, int answer, int upper, int lower) {
        due("ask() " + what, Check.ask(x, what), answer);
        due("asked(0) of " + what, x.asked(0), upper);
        due("asked(1) of " + what, x.asked(1), lower);
    }

    private void promise40() {
        StruckCounts x = Check.suited(SUIT);
        asked("a", x, 2, 3, 5);
        asked("a&b", x, 2, 3, 10);
        asked(" a\n|\n!a ", x, 1, 1, 1);
        asked("a&!a", x, 0, 0, 1);
        asked("2 of(a,b,c)", x, 2, 2, 5);
        asked("0 of(a)", x, 1, 1, 1);
        asked("6 of(a,b)", x, 0, 0, 1);
        asked("!!!!!a", x, 2, 2, 5);
        due("THE TEXT is empty", x.count(8), 0);
        x.answer(0, 1);
        asked("a", x, 1, 1, 1);
        asked("!a", x, 0, 0, 1);
        asked("b|c", x, 2, 3, 5);
        x.close();
        due("the SUIT stays: LINES", x.count(0), 13);
        due("ELEMENTS stay", x.element(0, 1, 0), 1);
        x.strike(0);
        asked("b", x, 1, 1, 1);
        due("no act", x.count(7), 3);
    }

    private void promise40Faults() {
        StruckCounts x = Check.suited(SUIT);
        asked("a", x, 2, 3, 5);
        check.questionFault(x, 1, "^");
        check.questionFault(x, 1, "  ^");
        check.questionFault(x, 1, "a^;");
        check.questionFault(x, 1, "a ^b");
        check.questionFault(x, 1, "^fact");
        check.questionFault(x, 1, "^abcdefg");
        check.questionFault(x, 1, "(a^");
        check.questionFault(x, 1, "a^)");
        check.questionFault(x, 1, "a&^");
        check.questionFault(x, 2, "^7 of(a)");
        check.questionFault(x, 3, "^d");
        check.questionFault(x, 3, "a|^p");
        check.questionFault(x, 4, "!!!!!^!a");
        check.questionFault(x, 4, "1 of(a,a,a,a,a,a,^a)");
        due("THE TEXT is empty", x.count(8), 0);
        due("what was ASKED stays: 0", x.asked(0), 3);
        due("what was ASKED stays: 1", x.asked(1), 5);
        // What all WORLDS fail is no FAULT of a question.
        asked("a&!a", x, 0, 0, 1);
        due("no fault", x.fault(0), 0);
        StruckCounts y = new StruckCounts();
        check.questionFault(y, 3, "^a");
        due("nothing ASKED", y.asked(0), NONE);
    }

    private void promise41() {
        StruckCounts x = Check.suited(SUIT);
        due("nothing ASKED, 0", x.asked(0), NONE);
        due("nothing ASKED, 1", x.asked(1), NONE);
        asked("a&b", x, 2, 3, 10);
        for (int what : NO_WHATS) {
            due("asked(" + what + ")", x.asked(what), NONE);
        }
        x.answer(0, 0);
        due("as it was then, 0", x.asked(0), 3);
        due("as it was then, 1", x.asked(1), 10);
        asked("c", x, 2, 1, 5);
        x.undo();
        due("the latest", x.asked(1), 5);
        Check.suit(x, "fact");
        due("a SUIT with a FAULT does not matter", x.asked(1), 5);
        Check.suit(x, "fact a;");
        due("nothing ASKED of this SUIT", x.asked(1), NONE);
    }

    private void promise42() {
        StruckCounts x = Check.suited(SUIT + "limit 77;");
        int[] counts = {14, 3, 3, 3, 0, 0, 0, 0, 0, 77};
        for (int what = 0; what < 10; what++) {
            due("count(" + what + ")", x.count(what), counts[what]);
        }
        for (int what : new int[] {-1, 10, Integer.MAX_VALUE, Integer.MIN_VALUE}) {
            due("count(" + what + ")", x.count(what), NONE);
        }
        x.days(9);
        x.answer(0, 1);
        x.answer(1, 2);
        x.strike(2);
        x.add(2, 1, 1);
        x.close();
        x.sign(0);
        // q: what it needs, c, is ADMITTED as it says; but a is KNOWN, and with it a PLEA.
        int[] then = {14, 3, 4, 1, 9, 1, 2, 6, 4, 77};
        for (int what = 0; what < 10; what++) {
            due("count(" + what + ") then", x.count(what), then[what]);
        }
    }

    /** Each PLEA bars, whichever it is, and only its own COUNT. */
    private void pleas() {
        StruckCounts x = Check.suited("fact a;fact b;fact c;fact d;count k worth 1 arose 1 needs a;"
                + "count l worth 1 arose 1 needs a;plea k b;plea l c;plea k d;says k a;says l a;");
        proofs(x, 0, true, new int[][] {{11, 1}});
        proofs(x, 0, false, new int[][] {{1, 0}, {2, 2}, {8, 8}});
        proofs(x, 1, true, new int[][] {{5, 1}});
        proofs(x, 1, false, new int[][] {{1, 0}, {4, 4}});
        chance("two PLEAS", x, 0, 1, 8);
        chance("one PLEA", x, 1, 1, 4);
    }

    /** As much as there can be: 8 FACTS, 5 COUNTS with 4 ELEMENTS, 6 PLEAS, 8 COUNTS in all. */
    private void most() {
        String n = " worth 9 arose 1 needs a needs b needs c needs ";
        String suit = "fact a;fact b;fact c;fact d;fact e;fact f;fact g;fact h;"
                + "count k" + n + "d;count l" + n + "e;count m" + n + "f;count n" + n + "g;count o" + n + "h;"
                + "plea k e;plea l f;plea m g;plea n h;plea o d;plea o !f;"
                + "never a&!b;never b&!a;never d&h;never e&!c;never f&!c;";
        StruckCounts x = check.right(24, suit);
        int[][] won = {{0x0F, 0x10}, {0x17, 0x20}, {0x27, 0x40}, {0x47, 0x80}, {0xA7, 0x08}};
        for (int k = 0; k < 5; k++) {
            due("ELEMENTS of " + k, x.of(k, 5), 4);
            due("PLEAS of " + k, x.of(k, 6), k == 4 ? 2 : 1);
            for (int world = 0; world < 256; world++) {
                boolean one = (world & 3) % 3 == 0 && (world & 0x88) != 0x88
                        && ((world & 0x30) == 0 || (world & 4) != 0);
                if (one && world % 7 == k) {
                    boolean is = (world & won[k][0]) == won[k][0] && (world & won[k][1]) == 0;
                    wonIn(Check.suited(suit), k, world, is);
                }
            }
        }
        for (int k = 5; k < 8; k++) {
            due("one more", x.add(k - 2, 1, 1), k);
            due("it has ELEMENTS", x.element(k, 3, 2), 2);
            due("and a PLEA", x.bar(k, 0, 2), 2);
            due("its INJURY", x.of(k, 10), k < 7 ? k - 2 : 3);
        }
        due("together, k and n", x.together(9), 1);
        due("together, l and o", x.together(18), 0);
        due("together, the added ones and o", x.together(0xF0), 0);
        due("together, all like n", x.together(0xA8), 1);
    }

    /** Whether a COUNT is WON in a WORLD, by way of all that is ADMITTED. */
    private void wonIn(StruckCounts x, int k, int world, boolean won) {
        for (int f = 0; f < 8; f++) {
            x.answer(f, world >> f & 1);
        }
        due("WORLDS left of " + world, x.worlds(1), 1);
        due("COUNT " + k + " WON in " + world, x.judged(k), won ? 1 : 0);
    }
}
