/** A test for each sentence that names a boundary: promises 26 to 42, what is left for trial. */
final class BoundsOfTrialTest extends Bounds {
    private static final String ABC = "fact a;fact b;fact c;";
    /** p is won in ab, ac, abc; q in c, bc; r, of one injury with p, in a, ab, ac, abc. */
    private static final String SUIT = "fact a 6;fact b 5;fact c 2;"
            + "count p worth 100 arose 1 needs a needs b|c;count q worth 40 arose 1 needs c;plea q a;"
            + "count r worth 70 arose 1 needs a;same p r;says p a;says p b;says q c;says q !a;says r a;";

    public static void main(String[] args) throws Exception {
        new BoundsOfTrialTest().runAll();
    }

    private static StruckCounts suited() {
        return Check.suited(SUIT);
    }

    /** One COUNT, 0, that needs this. */
    private static StruckCounts needing(String facts, String needs) {
        return Check.suited(facts + count("k", needs));
    }

    // ---- the headline of all of these

    @Sentence(of = "Terms 3", says = "what is left for trial (by WORLDS that AGREE with KNOWN; whether COUNTS STAND does "
            + "not matter, where it is not told)")
    void byKnownAndWhetherTheyStandOrNot() {
        for (int time = 0; time < 2; time++) {
            StruckCounts x = suited();
            x.answer(0, 1);
            if (time == 1) {
                // Told of award(), outcomes(), elect() alone: none of the COUNTS stands any more.
                x.strike(0);
                x.strike(1);
                x.strike(2);
            }
            due("issues(0)", x.issues(0), 6);
            due("judged(2)", x.judged(2), 1);
            due("tries(0, 0)", x.tries(0, 0), 2);
            due("tries(0, 1)", x.tries(0, 1), 1);
            due("chance(0, 0)", x.chance(0, 0), 3);
            due("chance(0, 1)", x.chance(0, 1), 5);
            due("proofs(0, true)", x.proofs(0, true), 2);
            due("proof(0, true, 0, 0)", x.proof(0, true, 0, 0), 2);
            due("duel(0, 1)", x.duel(0, 1), 1);
            due("turn(0, 0, 0)", x.turn(0, 0, 0), 1);
            due("together(5)", x.together(5), 1);
            due("together(2)", x.together(2), 0);
            due("award(0)", x.award(0), time == 0 ? 70 : 0);
            due("award(1)", x.award(1), time == 0 ? 100 : 0);
            due("outcomes()", x.outcomes(), time == 0 ? 2 : 1);
            due("elect(0)", x.elect(0), time == 0 ? 2 : 0);
            due("meant(0)", x.meant(0), time == 0 ? 88 : 0);
        }
    }

    // ---- promises 26 and 27

    @Sentence(of = "Promise 26", says = "two such WORLDS are alike but for that FACT, in one of which it is WON, in the "
            + "other LOST.")
    void promise26WorldsAlikeButForOne() {
        due("all", suited().issues(0), 7);
        due("WON always", needing(ABC, "a|!a").issues(0), 0);
        due("WON never", needing(ABC, "a&!a").issues(0), 0);
        due("no two alike but for a", needing("fact a;fact b;never a&!b;never b&!a;", "a").issues(0), 0);
        due("b, but not a", needing("fact a;fact b;never a&!b;", "a").issues(0), 1);
        due("one that needs neither so", needing(ABC, "!a&!c").issues(0), 5);
        due("by a PLEA alone", Check.suited(ABC + count("k", "a|!a") + "plea k c;").issues(0), 4);
        due("all eight", needing(EIGHT, "a&!b&c&!d&e&!f&g&!h").issues(0), 255);
        due("the last alone", needing(EIGHT, "h").issues(0), 128);
        due("WON in the first WORLD alone", needing(ABC, "!a&!b&!c").issues(0), 7);
        due("WON in the last WORLD alone", needing(ABC, "a&b&c").issues(0), 7);
        due("LOST in the first WORLD alone", needing(ABC, "a|b|c").issues(0), 7);
        StruckCounts x = needing(ABC, "a&b|c");
        x.answer(2, 1);
        due("c KNOWN so: none", x.issues(0), 0);
        x.undo();
        x.answer(2, 0);
        due("c KNOWN not so: a, b", x.issues(0), 3);
        x.answer(0, 0);
        due("a KNOWN not so: none", x.issues(0), 0);
    }

    @Sentence(of = "Promise 26", says = "NONE: no such COUNT.")
    void promise26None() {
        for (int k : beyond(3)) {
            due("issues(" + k + ")", suited().issues(k), NONE);
        }
        due("of none", new StruckCounts().issues(0), NONE);
    }

    @Sentence(of = "Promise 27", says = "1: the COUNT is WON in all of them, 0: in none, 2: else.")
    void promise27Judged() {
        // But for one WORLD of 256.
        due("all but one", needing(EIGHT, "a|b|c|d|e|f|g|h").judged(0), 2);
        due("one alone", needing(EIGHT, "a&b&c&d&e&f&g&h").judged(0), 2);
        due("all", needing(EIGHT, "a|!a").judged(0), 1);
        due("none", needing(EIGHT, "a&!a").judged(0), 0);
        due("all that NEVERS leave", needing("fact a;fact b;never !a&!b;", "a|b").judged(0), 1);
        due("none that NEVERS leave", needing("fact a;fact b;never a&b;", "a&b").judged(0), 0);
        StruckCounts x = needing(ABC, "a&b");
        x.answer(0, 1);
        due("one KNOWN", x.judged(0), 2);
        x.answer(1, 1);
        due("both KNOWN", x.judged(0), 1);
        x.withdraw(1);
        x.answer(1, 0);
        due("one KNOWN not so", x.judged(0), 0);
    }

    @Sentence(of = "Promise 27", says = "NONE: no such COUNT.")
    void promise27None() {
        for (int k : beyond(3)) {
            due("judged(" + k + ")", suited().judged(k), NONE);
        }
        due("of none", new StruckCounts().judged(0), NONE);
    }

    // ---- promise 28

    private void tries(String what, StruckCounts x, int many, int first) {
        due("tries 0: " + what, x.tries(0, 0), many);
        due("tries 1: " + what, x.tries(0, 1), first);
    }

    @Sentence(of = "Promise 28", says = "each takes a FACT that is not KNOWN nor tried, and tells whether it is so "
            + "(either, if a WORLD is left by it).")
    void promise28EitherIfAWorldIsLeft() {
        tries("a tells of b, too", needing("fact a;fact b;never a&!b;never b&!a;", "b"), 1, 0);
        tries("a can't be so, which tells nothing", needing("fact a;fact b;never a;", "b"), 1, 1);
        // c so leaves a to be tried; c not so leaves b, as a so is in no WORLD with b.
        tries("c first", needing(ABC + "never a&b;", "!b&!c|a"), 2, 2);
        tries("c first no more, without the NEVER", needing(ABC, "!b&!c|a"), 3, 0);
        StruckCounts x = needing(ABC, "a&b|c");
        tries("all three", x, 3, 0);
        x.answer(0, 1);
        tries("a KNOWN", x, 2, 1);
        x.answer(1, 2);
        tries("b DENIED", x, 2, 1);
        x.answer(1, 0);
        tries("b KNOWN", x, 1, 2);
        x.answer(2, 3);
        tries("c NOT KNOWN", x, 1, 2);
    }

    @Sentence(of = "Promise 28", says = "The fewest, at worst, each chosen by what the ones ahead told, till the COUNT is "
            + "WON in all WORLDS left or in none: how many (what 0)")
    void promise28TheFewestAtWorst() {
        tries("none", needing(ABC, "a|!a"), 0, -2);
        tries("one", needing(ABC, "c"), 1, 2);
        tries("b tells which of a and c to try", needing(ABC, "b&a|!b&c"), 2, 1);
        tries("at worst all", needing(ABC, "a&b&c"), 3, 0);
        tries("eight", needing(EIGHT, "a&b&c&d&e&f&g&h"), 8, 0);
        tries("seven", needing(EIGHT, "b&c&d&e&f&g&h"), 7, 1);
        tries("alike or not", needing(EIGHT, "a&h|!a&!h"), 2, 0);
        tries("one of four by two that choose", needing(EIGHT + "never g|h;",
                "e&f&a|e&!f&b|!e&f&c|!e&!f&d"), 3, 4);
    }

    @Sentence(of = "Promise 28", says = "the FACT to be tried first, the least by which it is so few (1)")
    void promise28TheLeastFirst() {
        tries("either", needing(ABC, "b|c"), 2, 1);
        tries("c alone, not the lesser ones", needing(ABC, "c&a|!c&b"), 2, 2);
        tries("the last", needing(EIGHT, "h"), 1, 7);
        tries("two tell the same", needing(ABC + "never b&!c;never c&!b;", "c"), 1, 1);
    }

    @Sentence(of = "Promise 28", says = "NONE: no such ones")
    void promise28None() {
        for (int what = 0; what < 2; what++) {
            for (int k : beyond(3)) {
                due("tries(" + k + ", " + what + ")", suited().tries(k, what), NONE);
            }
        }
        for (int what : beyond(2)) {
            due("tries(0, " + what + ")", suited().tries(0, what), NONE);
            due("tries(0, " + what + "), none needed", needing(ABC, "a|!a").tries(0, what), NONE);
        }
    }

    @Sentence(of = "Promise 28", says = "-2: none is needed (what 1).")
    void promise28NoneIsNeeded() {
        tries("WON in all", needing(ABC, "a|!a"), 0, -2);
        tries("in none", needing(ABC, "a&!a"), 0, -2);
        tries("of no open FACT", oneKnown(), 0, -2);
        tries("one is needed", needing(ABC, "a"), 1, 0);
    }

    private static StruckCounts oneKnown() {
        StruckCounts x = needing("fact a;", "a");
        x.answer(0, 1);
        return x;
    }

    // ---- promise 29

    private void chance(String what, StruckCounts x, int upper, int lower) {
        due("chance 0: " + what, x.chance(0, 0), upper);
        due("chance 1: " + what, x.chance(0, 1), lower);
    }

    @Sentence(of = "Promise 29", says = "each WORLD weighs, over all FACTS, ODDS where it is so, 10 less ODDS where not, "
            + "all multiplied")
    void promise29Weights() {
        for (int odds = 1; odds <= 9; odds++) {
            StruckCounts x = needing("fact a " + odds + ";fact b;", "a");
            int common = odds % 5 == 0 ? 5 : odds % 2 == 0 ? 2 : 1;
            chance("ODDS " + odds, x, odds / common, 10 / common);
        }
        String nines = "fact a 9;fact b 9;fact c 9;fact d 9;fact e 9;fact f 9;fact g 9;fact h 9;";
        chance("all of eight", needing(nines, "a&b&c&d&e&f&g&h"), 43046721, 100000000);
        chance("none of eight", needing(nines, "!(a|b|c|d|e|f|g|h)"), 1, 100000000);
        chance("KNOWN FACTS weigh alike in all", oneKnown(), 1, 1);
        StruckCounts x = needing("fact a 3;fact b 4;", "b");
        x.answer(0, 0);
        chance("a KNOWN", x, 2, 5);
        // 3 * 6 of 3 * 6, 7 * 4, 7 * 6.
        chance("by a NEVER", needing("fact a 3;fact b 4;never a&b;", "a"), 9, 44);
    }

    @Sentence(of = "Promise 29", says = "what WORLDS weigh together in which it is WON, by what all weigh, in lowest terms "
            + "(0 by 1)")
    void promise29LowestTerms() {
        chance("0 by 1", needing(ABC, "a&!a"), 0, 1);
        chance("1 by 1", needing(ABC, "a|!a"), 1, 1);
        chance("1 by 2", needing(EIGHT, "a"), 1, 2);
        chance("3 by 4", needing(EIGHT, "a|b"), 3, 4);
        chance("1 by 256", needing(EIGHT, "a&b&c&d&e&f&g&h"), 1, 256);
        chance("255 by 256", needing(EIGHT, "a|b|c|d|e|f|g|h"), 255, 256);
        // 4 * 4 of 4 * 4, 4 * 6, 6 * 4.
        chance("1 by 4", needing("fact a 4;fact b 4;never !a&!b;", "a&b"), 1, 4);
        chance("lower by lower", needing("fact a 4;fact b 4;never !a&!b;", "a"), 5, 8);
    }

    @Sentence(of = "Promise 29", says = "NONE: no such ones.")
    void promise29None() {
        for (int what = 0; what < 2; what++) {
            for (int k : beyond(3)) {
                due("chance(" + k + ", " + what + ")", suited().chance(k, what), NONE);
            }
        }
        for (int what : beyond(2)) {
            due("chance(0, " + what + ")", suited().chance(0, what), NONE);
        }
    }

    // ---- promises 30 to 33

    @Sentence(of = "Promise 30", says = "what 0: the least, 1: the greatest, 2: the first WORLD (the least as bits) with "
            + "the greatest.")
    void promise30LeastGreatestFirst() {
        StruckCounts x = suited();
        due("the least", x.award(0), 0);
        due("the greatest", x.award(1), 100);
        due("ab ahead of ac", x.award(2), 3);
        x.answer(0, 1);
        due("the least of what is left", x.award(0), 70);
        x.answer(1, 0);
        due("ac", x.award(2), 5);
        x.close();
        x.find(2, true);
        due("one WORLD: the least", x.award(0), 100);
        due("the greatest", x.award(1), 100);
        x = Check.suited("fact a;fact b;count k worth 7 arose 1 needs a|b;says k a;");
        due("three alike", x.award(2), 1);
        x = Check.suited("fact a;fact b;count k worth 7 arose 1 needs !a|!b;says k !b;");
        due("where nothing is so", x.award(2), 0);
        x = Check.suited("fact a;count k worth 0 arose 1 needs a;says k a;");
        due("WORTH 0 is no more than none", x.award(2), 0);
        x = Check.suited(EIGHT + "count k worth 1 arose 1 needs a&b&c&d needs e&f&g&h;says k a;says k b;says k c;"
                + "says k d;says k e;says k f;says k g;says k h;");
        due("the last WORLD of all", x.award(2), 255);
        x = Check.suited(ABC + "never !a;count k worth 1 arose 1 needs b;");
        due("none STANDS: the first WORLD there is", x.award(2), 1);
        due("none STANDS: the greatest", x.award(1), 0);
    }

    @Sentence(of = "Promise 30", says = "NONE for another what.")
    void promise30None() {
        for (int what : beyond(3)) {
            due("award(" + what + ")", suited().award(what), NONE);
            due("award(" + what + ") of none", new StruckCounts().award(what), NONE);
        }
    }

    private void meant(String what, StruckCounts x, long upper, long lower) {
        due("meant 0: " + what, x.meant(0), upper);
        due("meant 1: " + what, x.meant(1), lower);
    }

    @Sentence(of = "Promise 31", says = "the sum of AWARD times weight over these WORLDS, by what they weigh, in lowest "
            + "terms: what 0, 1 likewise.")
    void promise31Meant() {
        meant("56", suited(), 56, 1);
        meant("none STANDS: 0 by 1", needing(ABC, "a"), 0, 1);
        meant("new: 0 by 1", new StruckCounts(), 0, 1);
        meant("100 by 3", Check.suited("fact a;fact b;never a&b;count k worth 100 arose 1 needs a;says k a;"), 100, 3);
        // Three unlike INJURIES of WORTH 999, in all but one WORLD of 10 ^ 8: more than an int holds.
        String needs = " worth 999 arose 1 needs !(a&b&c&d&e&f&g&h);";
        StruckCounts x = Check.suited("fact a 9;fact b 9;fact c 9;fact d 9;fact e 9;fact f 9;fact g 9;fact h 9;"
                + "count k" + needs + "count l" + needs + "count m" + needs + "says k !a;says l !a;says m !a;");
        meant("more than an int holds", x, 3L * 999 * 56953279, 100000000);
        x.answer(0, 1);
        meant("a KNOWN", x, 3L * 999 * (10000000 - 4782969), 10000000);
    }

    @Sentence(of = "Promise 31", says = "NONE for another what.")
    void promise31None() {
        for (int what : beyond(2)) {
            due("meant(" + what + ")", suited().meant(what), NONE);
            due("meant(" + what + ") of none", new StruckCounts().meant(what), NONE);
        }
    }

    @Sentence(of = "Promise 32", says = "unlike sets of COUNTS that STAND and are WON in one WORLD: how many.")
    void promise32HowManyUnlike() {
        due("four", suited().outcomes(), 4);
        due("of no COUNT one: the empty set", new StruckCounts().outcomes(), 1);
        due("none STANDS: the empty set", needing(ABC, "a").outcomes(), 1);
        due("WON in all: one", Check.suited("fact a;" + count("k", "a|!a")).outcomes(), 1);
        due("which is not the empty set", Check.suited("fact a;" + count("k", "a|!a")).outcome(0, 0), 1);
        String five = EIGHT + count("k", "a") + count("l", "b") + count("m", "c") + count("n", "d")
                + count("o", "e") + "says k a;says l b;says m c;says n d;says o e;";
        due("thirty-two", Check.suited(five).outcomes(), 32);
        StruckCounts x = Check.suited(five);
        x.strike(4);
        due("sixteen", x.outcomes(), 16);
        x.answer(0, 1);
        due("eight", x.outcomes(), 8);
    }

    @Sentence(of = "Promise 33", says = "Of the i-th OUTCOME (in the order of the first WORLDS by which they are, as bits): "
            + "what 0: the set (bits), 1: how many WORLDS have it, 2: the first.")
    void promise33InTheOrderOfTheFirstWorlds() {
        int[][] want = {{0, 2, 0}, {4, 1, 1}, {5, 3, 3}, {2, 2, 4}};
        StruckCounts x = suited();
        for (int i = 0; i < 4; i++) {
            for (int what = 0; what < 3; what++) {
                due("outcome(" + i + ", " + what + ")", x.outcome(i, what), want[i][what]);
            }
        }
        x.answer(0, 0);
        int[][] then = {{0, 2, 0}, {2, 2, 4}};
        for (int i = 0; i < 2; i++) {
            for (int what = 0; what < 3; what++) {
                due("a KNOWN: outcome(" + i + ", " + what + ")", x.outcome(i, what), then[i][what]);
            }
        }
        x = Check.suited(EIGHT + count("k", "h") + "says k h;");
        due("of 256: half of them", x.outcome(1, 1), 128);
        due("the first", x.outcome(1, 2), 128);
        due("all", Check.suited(EIGHT).outcome(0, 1), 256);
    }

    @Sentence(of = "Promise 33", says = "NONE: no such ones.")
    void promise33None() {
        for (int what = 0; what < 3; what++) {
            for (int i : beyond(4)) {
                due("outcome(" + i + ", " + what + ")", suited().outcome(i, what), NONE);
            }
            due("outcome(1, " + what + ") of one", new StruckCounts().outcome(1, what), NONE);
        }
        for (int what : beyond(3)) {
            due("outcome(0, " + what + ")", suited().outcome(0, what), NONE);
        }
        StruckCounts x = suited();
        x.answer(0, 1);
        due("the last, a KNOWN", x.outcome(1, 0), 5);
        due("one of those that were", x.outcome(2, 0), NONE);
    }

    // ---- promises 34 and 35

    private void proofs(StruckCounts x, boolean won, int[][] want) {
        due("proofs(0, " + won + ")", x.proofs(0, won), want.length);
        for (int i = 0; i < want.length; i++) {
            due("proof(0, " + won + ", " + i + ", 0)", x.proof(0, won, i, 0), want[i][0]);
            due("proof(0, " + won + ", " + i + ", 1)", x.proof(0, won, i, 1), want[i][1]);
        }
        due("proof(0, " + won + ", " + want.length + ", 0)", x.proof(0, won, want.length, 0), NONE);
        due("proof(0, " + won + ", " + want.length + ", 1)", x.proof(0, won, want.length, 1), NONE);
    }

    @Sentence(of = "Promise 34", says = "sets of LITERALS, of FACTS that are not KNOWN, with which at least one WORLD "
            + "AGREES")
    void promise34OfFactsNotKnownAndAWorld() {
        StruckCounts x = needing(ABC, "a&b|c");
        proofs(x, true, new int[][] {{4, 4}, {3, 3}});
        x.answer(0, 1);
        proofs(x, true, new int[][] {{2, 2}, {4, 4}});
        x.answer(1, 2);
        proofs(x, true, new int[][] {{2, 2}, {4, 4}});
        x.answer(1, 0);
        proofs(x, true, new int[][] {{4, 4}});
        proofs(x, false, new int[][] {{4, 0}});
        // a with b is in no WORLD, so it is no PROOF of anything.
        x = needing("fact a;fact b;never a&b;", "a&b");
        proofs(x, true, new int[0][]);
        proofs(x, false, new int[][] {{0, 0}});
        for (String never : new String[] {"a", "!a"}) {
            x = needing("fact a;fact b;never " + never + ";", "b");
            proofs(x, true, new int[][] {{2, 2}});
            proofs(x, false, new int[][] {{2, 0}});
            x = needing("fact a;fact b;never " + never + ";", "!b");
            proofs(x, true, new int[][] {{2, 0}});
            proofs(x, false, new int[][] {{2, 2}});
        }
    }

    @Sentence(of = "Promise 34", says = "and it is WON (won true), or LOST, in each that does, but no longer so if any one "
            + "of them is left out")
    void promise34NoneCanBeLeftOut() {
        StruckCounts x = needing(ABC, "2 of(a,b,c)");
        proofs(x, true, new int[][] {{3, 3}, {5, 5}, {6, 6}});
        proofs(x, false, new int[][] {{3, 0}, {5, 0}, {6, 0}});
        x = needing("fact a;fact b;", "a&!b|!a&b");
        proofs(x, true, new int[][] {{3, 1}, {3, 2}});
        proofs(x, false, new int[][] {{3, 0}, {3, 3}});
        x = needing("fact a;fact b;fact c;", "a&b|!a&c");
        // b and c are enough, whatever a is.
        proofs(x, true, new int[][] {{3, 3}, {5, 4}, {6, 6}});
        proofs(x, false, new int[][] {{3, 1}, {5, 0}, {6, 0}});
        proofs(needing(EIGHT, "!a&b&!c&d&!e&f&!g&h"), true, new int[][] {{255, 0xAA}});
        due("one of eight not so", needing(EIGHT, "!a&b&!c&d&!e&f&!g&h").proofs(0, false), 8);
    }

    @Sentence(of = "Promise 34", says = "how many (the empty set, too)")
    void promise34TheEmptySet() {
        proofs(needing(ABC, "a|!a"), true, new int[][] {{0, 0}});
        proofs(needing(ABC, "a|!a"), false, new int[0][]);
        proofs(needing(ABC, "a&!a"), true, new int[0][]);
        proofs(needing(ABC, "a&!a"), false, new int[][] {{0, 0}});
        proofs(oneKnown(), true, new int[][] {{0, 0}});
        proofs(oneKnown(), false, new int[0][]);
        due("by three of six, or by h", needing(EIGHT, "a&(3 of(b,c,d,e,f,g)|h)").proofs(0, true), 21);
    }

    @Sentence(of = "Promise 34", says = "NONE: no such COUNT.")
    void promise34None() {
        for (int k : beyond(3)) {
            due("proofs(" + k + ", true)", suited().proofs(k, true), NONE);
            due("proofs(" + k + ", false)", suited().proofs(k, false), NONE);
        }
        due("of none", new StruckCounts().proofs(0, true), NONE);
    }

    @Sentence(of = "Promise 35", says = "(by how many LITERALS, then by FACTS, then by the ones as so, as bits, the least "
            + "first)")
    void promise35TheirOrder() {
        proofs(needing(ABC, "c|a&b"), true, new int[][] {{4, 4}, {3, 3}});
        proofs(needing(ABC, "a&c|b&c|a&b"), true, new int[][] {{3, 3}, {5, 5}, {6, 6}});
        proofs(needing("fact a;fact b;", "a&b|!a&!b"), true, new int[][] {{3, 0}, {3, 3}});
        proofs(needing("fact a;fact b;", "a&b|!a&!b"), false, new int[][] {{3, 1}, {3, 2}});
        proofs(needing(ABC, "!c|b"), true, new int[][] {{2, 2}, {4, 0}});
        StruckCounts x = needing(EIGHT, "a&b&c&d&e&f&g&h");
        int[][] want = new int[8][];
        for (int f = 0; f < 8; f++) {
            want[f] = new int[] {1 << f, 0};
        }
        proofs(x, false, want);
    }

    @Sentence(of = "Promise 35", says = "NONE: no such ones.")
    void promise35None() {
        for (int what = 0; what < 2; what++) {
            for (int i : beyond(2)) {
                due("proof(0, true, " + i + ", " + what + ")", suited().proof(0, true, i, what), NONE);
            }
            for (int k : beyond(3)) {
                due("proof(" + k + ", true, 0, " + what + ")", suited().proof(k, true, 0, what), NONE);
                due("proof(" + k + ", false, 0, " + what + ")", suited().proof(k, false, 0, what), NONE);
            }
        }
        for (int what : beyond(2)) {
            due("proof(0, true, 0, " + what + ")", suited().proof(0, true, 0, what), NONE);
        }
        due("of a COUNT without one", needing(ABC, "a&!a").proof(0, true, 0, 0), NONE);
    }

    @Sentence(of = "Promise 35", says = "what 0: its FACTS, 1: of these the ones as so.")
    void promise35WithoutCountingThemFirst() {
        due("its FACTS", suited().proof(0, true, 1, 0), 5);
        due("the ones as so", suited().proof(1, true, 0, 1), 4);
        StruckCounts x = suited();
        due("LOST, 0", x.proof(0, false, 1, 0), 6);
        due("of another COUNT", x.proof(1, true, 0, 0), 5);
        x.answer(1, 1);
        due("of the first again, b KNOWN", x.proof(0, true, 0, 0), 1);
        due("as so", x.proof(0, true, 0, 1), 1);
    }

    // ---- promises 36 and 37

    private void duel(String what, StruckCounts x, int first, int wins, int fact, int so) {
        due("duel, " + first + " begins: " + what, x.duel(0, first), wins);
        due("turn 0, " + first + " begins: " + what, x.turn(0, first, 0), fact);
        due("turn 1, " + first + " begins: " + what, x.turn(0, first, 1), so);
    }

    @Sentence(of = "Promise 36", says = "who begins (0 the one who pleads the COUNT, 1 the other one)")
    void promise36WhoBegins() {
        duel("one FACT", needing("fact a;", "a"), 0, 1, 0, 1);
        duel("one FACT", needing("fact a;", "a"), 1, 0, 0, 0);
        duel("not so", needing("fact a;", "!a"), 0, 1, 0, 0);
        duel("not so", needing("fact a;", "!a"), 1, 0, 0, 1);
    }

    @Sentence(of = "Promise 36", says = "by turns take a FACT that is not KNOWN nor taken, and say how it is, as long as a "
            + "WORLD is left by it, till none is")
    void promise36ByTurnsTillNoneIs() {
        // The one who takes the last of an odd or even number decides.
        duel("the last of two", needing("fact a;fact b;", "a&b|!a&!b"), 0, 0, -2, -2);
        duel("the last of two", needing("fact a;fact b;", "a&b|!a&!b"), 1, 1, -2, -2);
        duel("the last of three", needing(ABC, "a&b|!a&!b"), 0, 1, 2, 0);
        duel("the last of three", needing(ABC, "a&b|!a&!b"), 1, 0, 2, 0);
        StruckCounts x = needing(ABC, "a&b|!a&!b");
        x.answer(2, 1);
        duel("c KNOWN", x, 0, 0, -2, -2);
        duel("c KNOWN", x, 1, 1, -2, -2);
        x = needing(ABC, "a&b|!a&!b");
        x.answer(2, 2);
        duel("c DENIED", x, 0, 1, 2, 0);
        // a so would leave no WORLD; so each takes what there is.
        duel("a never so", needing("fact a;never a;", "a"), 0, 0, -2, -2);
        duel("a never so", needing("fact a;never a;", "a"), 1, 0, 0, 0);
        duel("a tells of b", needing("fact a;fact b;never a&!b;never b&!a;", "b"), 0, 1, 0, 1);
        duel("a tells of b", needing("fact a;fact b;never a&!b;never b&!a;", "b"), 1, 0, 0, 0);
        duel("a so makes b not so", needing("fact a;fact b;never a&b;", "b"), 1, 0, 0, 1);
    }

    @Sentence(of = "Promise 36", says = "the one who pleads wins, if the COUNT is WON in the WORLD that is left: 1 if he "
            + "can win whatever the other does, else 0.")
    void promise36WinsWhateverTheOtherDoes() {
        due("no turn, WON", oneKnown().duel(0, 0), 1);
        due("no turn, WON", oneKnown().duel(0, 1), 1);
        StruckCounts x = needing("fact a;", "a");
        x.answer(0, 0);
        due("no turn, LOST", x.duel(0, 0), 0);
        due("no turn, LOST", x.duel(0, 1), 0);
        due("he needs both", needing("fact a;fact b;", "a&b").duel(0, 0), 0);
        due("he needs one", needing("fact a;fact b;", "a|b").duel(0, 1), 1);
        due("three of six, with two besides", needing(EIGHT, "3 of(a,b,c,d,e,f)").duel(0, 0), 1);
        due("three of six, the other begins", needing(EIGHT, "3 of(a,b,c,d,e,f)").duel(0, 1), 1);
        due("four of six", needing(EIGHT, "4 of(a,b,c,d,e,f)").duel(0, 0), 0);
        due("all of eight", needing(EIGHT, "a&b&c&d&e&f&g&h").duel(0, 0), 0);
        due("one of eight", needing(EIGHT, "a|b|c|d|e|f|g|h").duel(0, 1), 1);
        due("STRUCK or not", struck().duel(0, 0), 1);
    }

    private static StruckCounts struck() {
        StruckCounts x = needing("fact a;", "a");
        x.strike(0);
        return x;
    }

    @Sentence(of = "Promise 36", says = "NONE: no such ones.")
    void promise36None() {
        for (int first = 0; first < 2; first++) {
            for (int k : beyond(3)) {
                due("duel(" + k + ", " + first + ")", suited().duel(k, first), NONE);
            }
        }
        for (int first : beyond(2)) {
            due("duel(0, " + first + ")", suited().duel(0, first), NONE);
        }
    }

    @Sentence(of = "Promise 37", says = "The first turn by which the one who begins wins: the least FACT (what 0), not so "
            + "ahead of so (what 1: 1 if so, else 0).")
    void promise37TheFirstTurn() {
        duel("either way of b", needing(ABC, "a&c|!a&!c"), 0, 1, 1, 0);
        duel("one that is left to the other, ahead of the two", needing(ABC, "b|c"), 0, 1, 0, 0);
        duel("the least of two, so", needing("fact a;fact b;", "a|b"), 0, 1, 0, 1);
        duel("a, not so", needing(ABC, "!a|b"), 0, 1, 0, 0);
        duel("the last alone", needing(EIGHT, "h"), 0, 1, 7, 1);
        duel("the last alone", needing(EIGHT, "h"), 1, 0, 7, 0);
        duel("whatever he does", needing(EIGHT, "a|!a"), 0, 1, 0, 0);
        duel("whatever the other does", needing(EIGHT, "a&!a"), 1, 0, 0, 0);
        // a can't be not so: the first turn is a, so.
        duel("the way that there is", needing("fact a;fact b;never !a;", "a"), 0, 1, 0, 1);
    }

    @Sentence(of = "Promise 37", says = "NONE: no such ones")
    void promise37None() {
        for (int what = 0; what < 2; what++) {
            for (int first = 0; first < 2; first++) {
                for (int k : beyond(3)) {
                    due("turn(" + k + ", " + first + ", " + what + ")", suited().turn(k, first, what), NONE);
                }
            }
            for (int first : beyond(2)) {
                due("turn(0, " + first + ", " + what + ")", suited().turn(0, first, what), NONE);
            }
        }
        for (int what : beyond(2)) {
            due("turn(0, 0, " + what + ")", suited().turn(0, 0, what), NONE);
            due("turn(0, 1, " + what + "), he can't", needing("fact a;fact b;", "a|b").turn(0, 1, what), NONE);
        }
    }

    @Sentence(of = "Promise 37", says = "-2: he can't, or there is no turn.")
    void promise37HeCantOrNoTurn() {
        for (int what = 0; what < 2; what++) {
            for (int first = 0; first < 2; first++) {
                due("no turn, WON", oneKnown().turn(0, first, what), -2);
                due("no turn, LOST", lostAll().turn(0, first, what), -2);
            }
            due("he can't", needing("fact a;fact b;", "a&b").turn(0, 0, what), -2);
            due("the other can", needing("fact a;fact b;", "a&b").turn(0, 1, what), 0);
            due("the other can't", needing("fact a;fact b;", "a|b").turn(0, 1, what), -2);
            due("he can", needing("fact a;fact b;", "a|b").turn(0, 0, what), what);
        }
    }

    private static StruckCounts lostAll() {
        StruckCounts x = needing("fact a;", "a");
        x.answer(0, 0);
        return x;
    }

    // ---- promises 38 and 39

    @Sentence(of = "Promise 38", says = "Whether all COUNTS of a set (bits) are WON in one of the WORLDS (1, 0; of no "
            + "COUNT: 1).")
    void promise38Together() {
        int[] together = {1, 1, 1, 0, 1, 1, 0, 0};
        for (int set = 0; set < 8; set++) {
            due("together(" + set + ")", suited().together(set), together[set]);
        }
        due("of no COUNT, of none", new StruckCounts().together(0), 1);
        StruckCounts x = needing(EIGHT, "a&b&c&d&e&f&g&h");
        for (int k = 1; k < 8; k++) {
            x.add(0, 1, 1);
        }
        due("all eight", x.together(255), 1);
        x.answer(7, 0);
        due("all eight, in none", x.together(255), 0);
        due("the last, in none", x.together(128), 0);
        due("of no COUNT", x.together(0), 1);
        // Two by two in one WORLD, but not all three in one.
        x = Check.suited(ABC + count("k", "a") + count("l", "b") + count("m", "!a|!b"));
        due("two", x.together(3) + x.together(5) + x.together(6), 3);
        due("three", x.together(7), 0);
    }

    @Sentence(of = "Promise 38", says = "NONE: below 0, or with a COUNT that is not there.")
    void promise38None() {
        for (int set : beyond(8)) {
            due("together(" + set + ") of three", suited().together(set), NONE);
        }
        StruckCounts x = suited();
        for (int counts = 3; counts < 8; counts++) {
            due("together(" + (1 << counts) + ") ahead", x.together(1 << counts), NONE);
            due("together(" + (2 << counts) + ") ahead", x.together(2 << counts), NONE);
            x.add(2, 1, 1);
            due("together(" + (1 << counts) + ")", x.together(1 << counts), 1);
        }
        due("256 of eight", x.together(256), NONE);
        due("257 of eight", x.together(257), NONE);
        due("-256 of eight", x.together(-256), NONE);
        x.undo();
        due("128, undone", x.together(128), NONE);
        for (int set : beyond(1)) {
            due("together(" + set + ") of none", new StruckCounts().together(set), NONE);
        }
    }

    @Sentence(of = "Promise 39", says = "The most COUNTS that STAND and are WON together in one WORLD: how many (what 0), "
            + "which (bits; of as many the least) (1).")
    void promise39Elect() {
        StruckCounts x = suited();
        due("two", x.elect(0), 2);
        due("p and r", x.elect(1), 5);
        x.strike(2);
        due("one", x.elect(0), 1);
        due("p or q: the least", x.elect(1), 1);
        x.say(0, 0, 2);
        due("p does not STAND", x.elect(1), 2);
        x.strike(1);
        due("none", x.elect(0), 0);
        due("no bits", x.elect(1), 0);
        due("of no COUNT", new StruckCounts().elect(0), 0);
        // The least bits, though in a later WORLD.
        x = Check.suited("fact a;" + count("k", "a") + count("l", "!a") + "says k a;says l !a;");
        due("k in WORLD 1 ahead of l in WORLD 0", x.elect(1), 1);
        x = Check.suited("fact a;" + count("k", "a") + "says k a;");
        for (int k = 1; k < 8; k++) {
            x.add(0, 1, 1);
            x.say(k, 0, 1);
        }
        due("all eight", x.elect(0), 8);
        due("all bits", x.elect(1), 255);
        // More of them ahead of lesser bits.
        x = Check.suited("fact a;" + count("k", "a") + count("l", "!a") + count("m", "!a")
                + "says k a;says l !a;says m !a;");
        due("two ahead of one", x.elect(0), 2);
        due("l and m", x.elect(1), 6);
        x.answer(0, 1);
        due("a KNOWN: k", x.elect(1), 1);
    }

    @Sentence(of = "Promise 39", says = "NONE for another what.")
    void promise39None() {
        for (int what : beyond(2)) {
            due("elect(" + what + ")", suited().elect(what), NONE);
            due("elect(" + what + ") of none", new StruckCounts().elect(what), NONE);
        }
    }

    // ---- promises 40 to 42

    @Sentence(of = "Promise 40", says = "1 if it holds in all of the WORLDS, 0 in none, 2 else")
    void promise40Holds() {
        StruckCounts x = Check.suited(EIGHT);
        due("all", Check.ask(x, "a|!a"), 1);
        due("none", Check.ask(x, "a&!a"), 0);
        due("all but one", Check.ask(x, "a|b|c|d|e|f|g|h"), 2);
        due("one", Check.ask(x, "a&b&c&d&e&f&g&h"), 2);
        x.answer(7, 1);
        due("KNOWN so", Check.ask(x, "h"), 1);
        due("KNOWN not to be not so", Check.ask(x, "!h"), 0);
        x = Check.suited("fact a;fact b;never !a&!b;");
        due("all that NEVERS leave", Check.ask(x, "a|b"), 1);
        due("none that NEVERS leave", Check.ask(x, "!a&!b"), 0);
    }

    @Sentence(of = "Promise 40", says = "THE TEXT (empty then) is an EXPR")
    void promise40AnExpr() {
        StruckCounts x = Check.suited("fact a;fact b;" + count("k", "a"));
        due("a", Check.ask(x, " \n a \n "), 2);
        due("empty then", x.count(8), 0);
        due("asked again of nothing", x.ask(), NONE);
        check.questionFault(x, 1, "^");
        check.questionFault(x, 1, "   ^");
        check.questionFault(x, 1, "a^;");
        check.questionFault(x, 1, "a ^b");
        check.questionFault(x, 1, "^never a");
        check.questionFault(x, 3, "^k");
        due("the SUIT stays", x.count(0), 3);
        due("no act", x.count(7), 0);
        // Again and again, with and without a FAULT: it takes no room of the next.
        x = Check.suited("fact a;fact b;" + count("k", "a"));
        due("long", Check.ask(x, "a|".repeat(170) + "!a"), 1);
        due("long, with a FAULT", Check.ask(x, "a|".repeat(170) + "!c"), NONE);
        due("long", Check.ask(x, "b&".repeat(170) + "!b"), 0);
        due("long", Check.ask(x, "b|".repeat(170) + "a"), 2);
        due("long", Check.ask(x, "b|".repeat(150) + "!b"), 1);
        due("the ELEMENT stays", x.element(0, 0, 2), 2);
    }

    @Sentence(of = "Promise 40", says = "NONE with a FAULT (1 to 4 as of a SUIT)")
    void promise40Faults() {
        StruckCounts x = Check.suited("fact a;fact b;never a&b;");
        check.questionFault(x, 1, "^A");
        check.questionFault(x, 1, "(a^");
        check.questionFault(x, 2, "a&^7 of(a)");
        check.questionFault(x, 3, "a&^c");
        check.questionFault(x, 4, "!!!!!^!a");
        check.questionFault(x, 4, "(((((^(a))))))");
        check.questionFault(x, 4, "1 of(a,a,a,a,a,a,^a)");
        due("5 is none of a question", Check.ask(x, "a|!a|b"), 1);
        due("no FAULT", x.fault(0), 0);
        due("what holds in no WORLD is no FAULT", Check.ask(x, "a&b"), 0);
        due("no FAULT", x.fault(0), 0);
        due("of no SUIT", Check.ask(new StruckCounts(), "0 of(a)"), NONE);
    }

    @Sentence(of = "Promise 40", says = "It is ASKED without one.")
    void promise40IsAskedWithoutAFault() {
        StruckCounts x = Check.suited("fact a 3;");
        due("a FAULT", Check.ask(x, "b"), NONE);
        due("nothing ASKED", x.asked(0), NONE);
        due("a", Check.ask(x, "a"), 2);
        due("ASKED", x.asked(0), 3);
        due("a FAULT again", Check.ask(x, "!"), NONE);
        due("ASKED still", x.asked(0), 3);
        due("by", x.asked(1), 10);
    }

    @Sentence(of = "Promise 41", says = "The chance (as of chance()) that what was ASKED latest holds, as it was then: "
            + "what 0, 1 likewise.")
    void promise41AsItWasThen() {
        StruckCounts x = Check.suited("fact a 3;fact b 4;" + count("k", "a"));
        Check.ask(x, "a|b");
        due("upper", x.asked(0), 29);
        due("lower", x.asked(1), 50);
        x.answer(0, 1);
        x.strike(0);
        due("as it was then, upper", x.asked(0), 29);
        due("as it was then, lower", x.asked(1), 50);
        Check.ask(x, "a|b");
        due("1 by 1", x.asked(0) + x.asked(1), 2);
        Check.ask(x, "!a");
        due("0", x.asked(0), 0);
        due("by 1", x.asked(1), 1);
        x.undo();
        x.undo();
        due("undo() does not matter, 0", x.asked(0), 0);
        due("by 1", x.asked(1), 1);
        Check.ask(x, "b");
        due("the latest", x.asked(0), 2);
        due("by 5", x.asked(1), 5);
        String nines = "fact a 9;fact b 9;fact c 9;fact d 9;fact e 9;fact f 9;fact g 9;fact h 9;";
        x = Check.suited(nines);
        Check.ask(x, "a&b&c&d&e&f&g&h");
        due("eight", x.asked(0), 43046721);
        due("by", x.asked(1), 100000000);
    }

    @Sentence(of = "Promise 41", says = "NONE: another what, nothing ASKED.")
    void promise41None() {
        StruckCounts x = Check.suited("fact a;");
        due("nothing ASKED, 0", x.asked(0), NONE);
        due("nothing ASKED, 1", x.asked(1), NONE);
        Check.ask(x, "a");
        due("ASKED", x.asked(0), 1);
        for (int what : beyond(2)) {
            due("asked(" + what + ")", x.asked(what), NONE);
            due("asked(" + what + "), nothing ASKED", new StruckCounts().asked(what), NONE);
        }
        Check.suit(x, "fact a;");
        due("nothing ASKED of this SUIT", x.asked(0), NONE);
        due("nothing of the new one, 1", x.asked(1), NONE);
    }

    @Sentence(of = "Promise 42", says = "0 LINES, 1 FACTS, 2 COUNTS (STRUCK ones, too), 3 COUNTS that STAND, 4 the DAY, "
            + "5 1 if CLOSED, 0 else, 6 FACTS that are KNOWN, 7 acts that can be undone, 8 signs of THE TEXT, 9 the "
            + "LIMIT.")
    void promise42Counts() {
        StruckCounts x = Check.suited(SUIT + "limit 999;");
        int[] first = {14, 3, 3, 3, 0, 0, 0, 0, 0, 999};
        for (int what = 0; what < 10; what++) {
            due("count(" + what + ")", x.count(what), first[what]);
        }
        x.strike(0);
        due("a STRUCK one, too", x.count(2), 3);
        due("but it does not STAND", x.count(3), 2);
        x.answer(0, 1);
        due("q does not STAND", x.count(3), 1);
        x.answer(1, 2);
        x.close();
        x.find(1, true);
        x.days(999);
        x.sign(0x20202020);
        int[] then = {14, 3, 3, 1, 999, 1, 3, 6, 4, 999};
        for (int what = 0; what < 10; what++) {
            due("count(" + what + ") then", x.count(what), then[what]);
        }
    }

    @Sentence(of = "Promise 42", says = "NONE for others.")
    void promise42None() {
        for (int what : beyond(10)) {
            due("count(" + what + ")", suited().count(what), NONE);
            due("count(" + what + ") of none", new StruckCounts().count(what), NONE);
        }
    }
}
