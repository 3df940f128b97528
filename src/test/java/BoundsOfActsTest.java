/** A test for each sentence that names a boundary: Terms 3 (acts), promises 10 to 20. */
final class BoundsOfActsTest extends Bounds {
    /** a and b are never both so; k says a and not c, l says b and c; d nobody says. */
    private static final String SUIT = "fact a;fact b;fact c;fact d;never a&b;"
            + "count k worth 5 arose 1 needs a;count l worth 7 arose 1 needs c;"
            + "says k a;says k !c;says l b;says l c;";

    public static void main(String[] args) throws Exception {
        new BoundsOfActsTest().runAll();
    }

    private static StruckCounts suited() {
        return Check.suited(SUIT);
    }

    private static StruckCounts closed() {
        StruckCounts x = suited();
        x.close();
        return x;
    }

    /** A call that an act is, or that is refused as one. */
    interface Call {
        long on(StruckCounts x);
    }

    private void refused(String call, StruckCounts x, long want, Call it) {
        String ahead = picture(x);
        due(call, it.on(x), want);
        due(call + " changes nothing", picture(x).equals(ahead), true);
    }

    // ---- Terms 3

    @Sentence(of = "Terms 3", says = "FACTS are answered till the pleadings are CLOSED, and FOUND behind that.")
    void answeredTillClosedAndFoundBehind() {
        StruckCounts x = suited();
        due("find() ahead", x.find(3, true), -2);
        due("answer() ahead", x.answer(3, 2), 1);
        x.close();
        due("answer() behind", x.answer(3, 1), -2);
        due("withdraw() behind", x.withdraw(0), -2);
        due("find() behind", x.find(3, true), 1);
        due("answer() of a FOUND one", x.answer(3, 2), -2);
        x.undo();
        x.undo();
        due("answer(), not CLOSED again", x.answer(3, 1), 1);
        due("find(), not CLOSED again", x.find(2, true), -2);
    }

    @Sentence(of = "Terms 3", says = "How a FACT is: 0 OPEN, 1 ADMITTED, 2 DENIED, 3 NOT KNOWN, 4 FOUND.")
    void howAFactIs() {
        StruckCounts x = suited();
        int[] hows = {0, 1, 2, 3};
        int[] is = {1, 1, 2, 3};
        due("OPEN", x.fact(3, 1), 0);
        for (int how : hows) {
            x.answer(3, how);
            due("answered " + how, x.fact(3, 1), is[how]);
            x.undo();
            due("OPEN again", x.fact(3, 1), 0);
        }
        x.close();
        x.find(3, false);
        due("FOUND", x.fact(3, 1), 4);
        due("by silence ADMITTED", x.fact(0, 1), 1);
        due("by silence NOT KNOWN", x.fact(1, 1), 3);
    }

    @Sentence(of = "Terms 3", says = "The last 16 acts")
    void theLast16Acts() {
        for (int acts = 14; acts <= 34; acts++) {
            StruckCounts x = new StruckCounts();
            for (int i = 0; i < acts; i++) {
                x.days(1);
            }
            int can = Math.min(acts, 16);
            due("acts that can be undone of " + acts, x.count(7), can);
            for (int i = 1; i <= can; i++) {
                due("undo() " + i + " of " + acts, x.undo(), can - i);
                due("the DAY", x.count(4), acts - i);
            }
            due("no more of " + acts, x.undo(), NONE);
            due("the DAY", x.count(4), acts - can);
        }
        // What has been undone makes room for no older act.
        StruckCounts x = new StruckCounts();
        for (int i = 0; i < 17; i++) {
            x.days(1);
        }
        due("undo()", x.undo(), 15);
        due("15 can be", x.count(7), 15);
        x.days(1);
        due("16 can be", x.count(7), 16);
        x.days(1);
        due("16 can be, still", x.count(7), 16);
    }

    @Sentence(of = "Terms 3", says = "(what is told in its place as an act, and was not refused)")
    void whatIsAnAct() {
        Call[] acts = {x -> x.answer(3, 2), x -> x.withdraw(2), x -> x.say(0, 3, 1), x -> x.add(0, 1, 1),
            x -> x.strike(0), x -> x.days(1), x -> x.again(0) ? 1 : 0, x -> x.close()};
        Call[] none = {x -> x.keep(1) ? 1 : 0, x -> x.undo(), x -> x.sign(0), x -> x.end(0) ? 1 : 0,
            x -> x.ask(), x -> x.worlds(1), x -> x.tries(0, 1), x -> x.proofs(0, true), x -> x.lacks(0, 0),
            x -> x.answer(2, 1), x -> x.answer(9, 1), x -> x.withdraw(3), x -> x.find(3, true), x -> x.say(0, 0, 1),
            x -> x.add(0, 1000, 0), x -> x.strike(-1), x -> x.days(0), x -> x.again(1) ? 1 : 0,
            x -> x.again(2) ? 1 : 0, x -> x.keep(2) ? 1 : 0, x -> Check.suit(x, "A")};
        for (int i = 0; i < acts.length; i++) {
            StruckCounts x = suited();
            x.answer(2, 1);
            x.keep(0);
            acts[i].on(x);
            due("acts behind act " + i, x.count(7), 2);
            due("undo() of act " + i, x.undo(), 1);
            due("what was ahead is there", x.fact(2, 1), 1);
        }
        StruckCounts y = closed();
        y.find(3, true);
        due("find() is an act", y.count(7), 2);
        due("close() again is none", y.close(), -2);
        due("acts", y.count(7), 2);
        for (int i = 0; i < none.length; i++) {
            StruckCounts x = suited();
            x.answer(2, 1);
            x.keep(0);
            x.days(1);
            none[i].on(x);
            due("acts behind what is none, " + i, x.count(7), i == 1 ? 1 : 2);
        }
    }

    @Sentence(of = "Terms 3", says = "can be undone, one by one; what they made (how FACTS are, CLOSED, COUNTS, the DAY) "
            + "is as it was ahead of them then.")
    void asItWasAheadOfThem() {
        StruckCounts x = suited();
        Call[] acts = {y -> y.answer(3, 2), y -> y.answer(2, 1), y -> y.withdraw(2), y -> y.say(1, 3, 1),
            y -> y.say(1, 3, 2), y -> y.days(9), y -> y.add(1, 9, 9), y -> y.say(2, 0, 0), y -> y.strike(2),
            y -> y.again(0) ? 1 : 0, y -> y.close(), y -> y.find(3, true), y -> y.again(0) ? 1 : 0};
        x.keep(0);
        String[] ahead = new String[acts.length];
        for (int i = 0; i < acts.length; i++) {
            ahead[i] = made(x);
            acts[i].on(x);
        }
        for (int i = acts.length - 1; i >= 0; i--) {
            due("undo() of " + i, x.undo(), i);
            due("as it was ahead of " + i, made(x).equals(ahead[i]), true);
        }
    }

    /** What acts made, in as few calls as show it. */
    private static String made(StruckCounts x) {
        StringBuilder s = new StringBuilder();
        for (int f = 0; f < 4; f++) {
            s.append(x.fact(f, 1)).append(x.fact(f, 2)).append(x.fact(f, 3)).append(' ');
        }
        s.append(x.of(1, 8)).append(' ').append(x.of(2, 0)).append(' ').append(x.of(2, 9)).append(' ');
        return s.append(x.count(4)).append(' ').append(x.count(5)).toString();
    }

    @Sentence(of = "Terms 3", says = "ORDER of answers below 0: NONE ahead of -2, that ahead of -3, and so on.")
    void orderOfAnswersBelow0() {
        StruckCounts x = suited();
        x.answer(0, 1);
        due("answer(), -3 ahead of -4", x.answer(0, 0), -3);
        due("find(), NONE ahead of -2", x.find(4, true), NONE);
        due("find(), -2 ahead of -3", x.find(0, true), -2);
        due("find(), -2 ahead of -3, -4", x.find(0, false), -2);
        due("find(), -2 ahead of -4", x.find(1, true), -2);
        due("withdraw(), NONE ahead of -3", x.withdraw(4), NONE);
        due("say(), -3 ahead of -4", sayingWhatIsKnownOtherwise().say(0, 0, 1), -3);
        x.close();
        due("answer(), NONE ahead of -2, FACT", x.answer(4, 1), NONE);
        due("answer(), NONE ahead of -2, how", x.answer(3, 4), NONE);
        due("answer(), -2 ahead of -3", x.answer(0, 1), -2);
        due("answer(), -2 ahead of -4", x.answer(1, 1), -2);
        due("withdraw(), NONE ahead of -2", x.withdraw(4), NONE);
        due("withdraw(), -2 ahead of -3", x.withdraw(3), -2);
        due("find(), NONE ahead of -3", x.find(-1, true), NONE);
        due("find(), -3 ahead of -4", x.find(0, false), -3);
        x = sayingWhatIsKnownOtherwise();
        x.strike(0);
        due("say(), NONE ahead of -2, FACT", x.say(0, 4, 1), NONE);
        due("say(), NONE ahead of -2, how", x.say(0, 0, 3), NONE);
        due("say(), -2 ahead of -3", x.say(0, 2, 0), -2);
        due("say(), -2 ahead of -3, no more", x.say(0, 3, 2), -2);
        due("say(), -2 ahead of -3, -4", x.say(0, 0, 1), -2);
        due("lacks(), NONE ahead of -2", x.lacks(0, 3), NONE);
        due("strike(), NONE", x.strike(2), NONE);
        for (int k = 2; k < 8; k++) {
            x.add(0, 1, 1);
        }
        due("add(), NONE ahead of -2, COUNT", x.add(8, 1, 1), NONE);
        due("add(), NONE ahead of -2, WORTH", x.add(0, 1000, 1), NONE);
        due("add(), NONE ahead of -2, AROSE", x.add(0, 1, -1), NONE);
        for (int i = 0; i < 10; i++) {
            x.days(999);
        }
        due("days(), NONE ahead of -2", x.days(1000), NONE);
        due("grown(), NONE ahead of -2", x.grown(0, 401), NONE);
        x = new StruckCounts();
        Check.suit(x, "fact a;" + count("k", "a|!a"));
        due("tries(), NONE ahead of -2", x.tries(1, 1), NONE);
        due("turn(), NONE ahead of -2, first", x.turn(0, 2, 0), NONE);
        due("turn(), NONE ahead of -2, what", x.turn(0, 1, 2), NONE);
    }

    /** k says a as so, which is KNOWN not to be so. */
    private static StruckCounts sayingWhatIsKnownOtherwise() {
        StruckCounts x = suited();
        x.answer(0, 0);
        return x;
    }

    @Sentence(of = "Terms 3", says = "What is refused changes nothing")
    void whatIsRefusedChangesNothing() {
        Call[] open = {x -> x.answer(4, 1), x -> x.answer(3, 4), x -> x.answer(0, 0), x -> x.answer(1, 1),
            x -> x.withdraw(-1), x -> x.withdraw(3), x -> x.find(3, true), x -> x.say(2, 0, 1), x -> x.say(0, 0, 1),
            x -> x.say(0, 3, 2), x -> x.say(1, 0, 0), x -> x.add(2, 1, 1), x -> x.add(0, -1, 1),
            x -> x.add(0, 1, 1000), x -> x.strike(2), x -> x.days(0), x -> x.days(1000), x -> x.keep(2) ? 1 : 0,
            x -> x.again(1) ? 1 : 0, x -> x.again(-1) ? 1 : 0, x -> x.end(1) ? 1 : 0};
        for (int i = 0; i < open.length; i++) {
            StruckCounts x = suited();
            x.answer(0, 1);
            Check.ask(x, "a|b");
            String ahead = picture(x);
            due("refused, " + i, open[i].on(x) <= 0, true);
            due("refused, " + i + ", nothing changes", picture(x).equals(ahead), true);
        }
        Call[] closed = {x -> x.answer(3, 1), x -> x.withdraw(0), x -> x.close(), x -> x.find(0, true),
            x -> x.find(1, true), x -> x.strike(1), x -> x.say(1, 0, 1), x -> x.again(0) ? 1 : 0};
        for (int i = 0; i < closed.length; i++) {
            StruckCounts x = closed();
            x.strike(1);
            String ahead = picture(x);
            due("refused, CLOSED, " + i, closed[i].on(x) <= 0, true);
            due("refused, CLOSED, " + i + ", nothing changes", picture(x).equals(ahead), true);
        }
    }

    @Sentence(of = "Terms 3", says = "(but suit() and ask() empty THE TEXT always)")
    void suitAndAskEmptyTheTextAlways() {
        String[] texts = {"", " ", "a", "A", "fact a", "fact a;", "0 of(b)", "fact a;fact a;", " ".repeat(480)};
        for (String text : texts) {
            StruckCounts x = suited();
            Check.text(x, text);
            due("signs of " + text, x.count(8), text.length());
            x.suit();
            due("behind suit() of " + text, x.count(8), 0);
            Check.text(x, text);
            x.ask();
            due("behind ask() of " + text, x.count(8), 0);
            due("and none comes back", x.end(1), false);
        }
    }

    // ---- promise 10

    @Sentence(of = "Promise 10", says = "how 0: ADMITTED not to be so, 1: ADMITTED to be so, 2: DENIED, 3: NOT KNOWN: "
            + "how many FACTS are not OPEN then.")
    void promise10Answers() {
        StruckCounts x = suited();
        for (int f = 0; f < 4; f++) {
            due("FACT " + f, x.answer(f, f == 1 ? 0 : f), f + 1);
        }
        int[][] is = {{1, 0}, {1, 0}, {2, 2}, {3, 2}};
        for (int f = 0; f < 4; f++) {
            due("how " + f + " is", x.fact(f, 1), is[f][0]);
            due("KNOWN of " + f, x.fact(f, 2), is[f][1]);
        }
        due("DENIED, NOT KNOWN then", x.answer(2, 3), 4);
        due("NOT KNOWN, DENIED then", x.answer(3, 2), 4);
        due("DENIED, ADMITTED then", x.answer(3, 1), 4);
        due("NOT KNOWN, ADMITTED then", x.answer(2, 0), 4);
        due("of one FACT", Check.suited("fact a;").answer(0, 2), 1);
        x = Check.suited(EIGHT);
        for (int f = 7; f >= 0; f--) {
            due("eight, FACT " + f, x.answer(f, f & 3), 8 - f);
        }
    }

    @Sentence(of = "Promise 10", says = "NONE: no such ones")
    void promise10None() {
        for (int how = 0; how < 4; how++) {
            StruckCounts x = suited();
            for (int f : beyond(4)) {
                due("answer(" + f + ", " + how + ")", x.answer(f, how), NONE);
            }
            due("no FACT", new StruckCounts().answer(0, how), NONE);
        }
        for (int how : beyond(4)) {
            StruckCounts x = suited();
            refused("answer(0, " + how + ")", x, NONE, y -> y.answer(0, how));
        }
    }

    @Sentence(of = "Promise 10", says = "-2: CLOSED")
    void promise10Closed() {
        for (int how = 0; how < 4; how++) {
            for (int f = 0; f < 4; f++) {
                due("answer(" + f + ", " + how + ")", closed().answer(f, how), -2);
            }
        }
    }

    @Sentence(of = "Promise 10", says = "-3: it is ADMITTED, or answered so already")
    void promise10Already() {
        for (int how = 0; how < 4; how++) {
            for (int then = 0; then < 4; then++) {
                StruckCounts x = suited();
                x.answer(3, how);
                due(how + ", then " + then, x.answer(3, then), how < 2 || how == then ? -3 : 1);
            }
        }
        StruckCounts x = suited();
        x.answer(3, 1);
        x.withdraw(3);
        due("ADMITTED, withdrawn", x.answer(3, 0), 1);
    }

    @Sentence(of = "Promise 10", says = "-4: no WORLD that AGREES with KNOWN would be left")
    void promise10NoWorld() {
        StruckCounts x = suited();
        x.answer(0, 1);
        refused("b, with a", x, -4, y -> y.answer(1, 1));
        due("DENIED can be", x.answer(1, 2), 2);
        due("b DENIED, with a", x.answer(1, 1), -4);
        due("not so can be", x.answer(1, 0), 2);
        x = Check.suited("fact a;never a;");
        due("never so", x.answer(0, 1), -4);
        due("never so, NOT KNOWN", x.answer(0, 3), 1);
        due("never so, not so", x.answer(0, 0), 1);
        due("the last WORLD", x.worlds(1), 1);
    }

    // ---- promises 11 to 13

    @Sentence(of = "Promise 11", says = "an ADMITTED FACT is OPEN again: how many are not OPEN then.")
    void promise11OpenAgain() {
        StruckCounts x = suited();
        x.answer(3, 2);
        x.answer(0, 1);
        x.answer(1, 0);
        due("so", x.withdraw(0), 2);
        due("not so", x.withdraw(1), 1);
        due("OPEN", x.fact(0, 1) + x.fact(1, 1), 0);
        due("not KNOWN", x.count(6), 0);
        due("WORLDS", x.worlds(1), 12);
        x = Check.suited("fact a;");
        x.answer(0, 0);
        due("the last", x.withdraw(0), 0);
    }

    @Sentence(of = "Promise 11", says = "NONE: no such FACT")
    void promise11None() {
        StruckCounts x = suited();
        for (int f : beyond(4)) {
            due("withdraw(" + f + ")", x.withdraw(f), NONE);
            due("withdraw(" + f + "), CLOSED", closed().withdraw(f), NONE);
        }
        due("no act", x.count(7), 0);
        due("no FACT", new StruckCounts().withdraw(0), NONE);
    }

    @Sentence(of = "Promise 11", says = "-2: CLOSED")
    void promise11Closed() {
        for (int f = 0; f < 4; f++) {
            due("CLOSED, FACT " + f, closed().withdraw(f), -2);
        }
        refused("CLOSED, ADMITTED", closed(), -2, y -> y.withdraw(0));
    }

    @Sentence(of = "Promise 11", says = "-3: it is not ADMITTED.")
    void promise11NotAdmitted() {
        refused("OPEN", suited(), -3, y -> y.withdraw(0));
        for (int how = 2; how < 4; how++) {
            StruckCounts x = suited();
            x.answer(0, how);
            int was = how;
            refused("answered " + was, x, -3, y -> y.withdraw(0));
        }
        StruckCounts x = suited();
        x.answer(0, 1);
        x.withdraw(0);
        due("withdrawn already", x.withdraw(0), -3);
    }

    @Sentence(of = "Promise 12", says = "FACT by FACT, by numbers, an OPEN one that a COUNT says which is not STRUCK "
            + "becomes ADMITTED as the first such COUNT says it")
    void promise12BySilence() {
        StruckCounts x = suited();
        due("a, and c as k says it", x.close(), 2);
        int[][] is = {{1, 1}, {3, 2}, {1, 0}, {0, 2}};
        for (int f = 0; f < 4; f++) {
            due("how " + f + " is", x.fact(f, 1), is[f][0]);
            due("KNOWN of " + f, x.fact(f, 2), is[f][1]);
        }
        x = suited();
        x.strike(0);
        due("k STRUCK: b, and c as l says it", x.close(), 2);
        due("a, that none says", x.fact(0, 1), 0);
        due("b", x.fact(1, 2), 1);
        due("c", x.fact(2, 2), 1);
        x = suited();
        x.strike(1);
        due("l STRUCK: a, and c", x.close(), 2);
        due("b, that none says", x.fact(1, 1), 0);
        x = suited();
        for (int f = 0; f < 4; f++) {
            x.answer(f, 2 + f % 2);
        }
        due("none OPEN", x.close(), 0);
        due("DENIED stays", x.fact(0, 1), 2);
        due("NOT KNOWN stays", x.fact(1, 1), 3);
        due("no COUNT", Check.suited("fact a;").close(), 0);
        x = Check.suited(EIGHT + count("k", "a"));
        for (int f = 0; f < 8; f++) {
            x.say(0, f, f & 1);
        }
        due("all eight", x.close(), 8);
        due("as it says them", x.worlds(1), 1);
        due("WORLD", x.award(2), 0xAA);
    }

    @Sentence(of = "Promise 12", says = "if a WORLD that AGREES with KNOWN is left then, else NOT KNOWN: how many became "
            + "ADMITTED.")
    void promise12ElseNotKnown() {
        // By numbers: what is ADMITTED first counts for what comes behind.
        StruckCounts x = Check.suited("fact a;fact b;fact c;never a&b;never b&c;" + count("k", "a")
                + "says k a;says k b;says k c;");
        due("a and c", x.close(), 2);
        due("a", x.fact(0, 1), 1);
        due("b", x.fact(1, 1), 3);
        due("c", x.fact(2, 1), 1);
        x = Check.suited("fact a;fact b;fact c;never a&b;never b&c;" + count("k", "a")
                + "says k a;says k b;says k c;");
        x.answer(1, 1);
        due("none, with b", x.close(), 0);
        due("a", x.fact(0, 1), 3);
        due("c", x.fact(2, 1), 3);
        // What is KNOWN behind it counts, too.
        x = Check.suited("fact a;fact b;never a&b;" + count("k", "a") + "says k a;");
        x.answer(1, 1);
        due("none, with b that was answered", x.close(), 0);
        due("a", x.fact(0, 1), 3);
        due("a is not KNOWN", x.fact(0, 2), 2);
    }

    @Sentence(of = "Promise 12", says = "-2: CLOSED already.")
    void promise12ClosedAlready() {
        StruckCounts x = closed();
        refused("close() again", x, -2, y -> y.close());
        x = new StruckCounts();
        due("close() of nothing", x.close(), 0);
        due("close() of nothing again", x.close(), -2);
        x.undo();
        due("close() behind undo()", x.close(), 0);
    }

    @Sentence(of = "Promise 13", says = "a FACT is FOUND to be so (is true), or not: how many FACTS are not KNOWN then.")
    void promise13Found() {
        StruckCounts x = Check.suited(EIGHT);
        x.answer(7, 1);
        x.answer(6, 2);
        x.close();
        for (int f = 0; f < 7; f++) {
            due("FACT " + f, x.find(f, (f & 1) != 0), 6 - f);
            due("how it is", x.fact(f, 1), 4);
            due("so", x.fact(f, 2), f & 1);
        }
        due("one WORLD", x.worlds(1), 1);
    }

    @Sentence(of = "Promise 13", says = "NONE: no such FACT")
    void promise13None() {
        StruckCounts x = closed();
        for (int f : beyond(4)) {
            due("find(" + f + ", true)", x.find(f, true), NONE);
            due("find(" + f + ", false)", x.find(f, false), NONE);
            due("find(" + f + ", true), not CLOSED", suited().find(f, true), NONE);
        }
        due("no act", x.count(7), 1);
    }

    @Sentence(of = "Promise 13", says = "-2: not CLOSED")
    void promise13NotClosed() {
        refused("not CLOSED", suited(), -2, y -> y.find(3, true));
        StruckCounts x = closed();
        x.undo();
        due("not CLOSED again", x.find(3, true), -2);
    }

    @Sentence(of = "Promise 13", says = "-3: it is KNOWN")
    void promise13Known() {
        refused("ADMITTED, that way", closed(), -3, y -> y.find(0, true));
        refused("ADMITTED, the other way", closed(), -3, y -> y.find(2, true));
        for (int way = 0; way < 4; way++) {
            StruckCounts x = closed();
            x.find(3, (way & 1) != 0);
            due("FOUND, way " + way, x.find(3, (way & 2) != 0), -3);
        }
        StruckCounts x = suited();
        x.answer(3, 2);
        x.answer(1, 3);
        x.close();
        due("DENIED is not KNOWN", x.find(3, true), 1);
        due("NOT KNOWN is not KNOWN", x.find(1, false), 0);
    }

    @Sentence(of = "Promise 13", says = "-4: no WORLD that AGREES with KNOWN would be left.")
    void promise13NoWorld() {
        refused("b, with a", closed(), -4, y -> y.find(1, true));
        StruckCounts x = closed();
        due("b, with a", x.find(1, true), -4);
        due("the other way", x.find(1, false), 1);
        x = Check.suited("fact a;never !a;");
        x.close();
        due("the last WORLD", x.find(0, false), -4);
        due("the last WORLD", x.find(0, true), 0);
        x = Check.suited("fact a;fact b;never a&b;");
        x.close();
        x.find(0, true);
        due("with one that is FOUND", x.find(1, true), -4);
    }

    // ---- promise 14

    @Sentence(of = "Promise 14", says = "how 0: as not so, 1: as so, 2: no more: how many FACTS it says then.")
    void promise14Says() {
        StruckCounts x = Check.suited(EIGHT + count("k", "a"));
        for (int f = 0; f < 8; f++) {
            due("FACT " + f, x.say(0, f, f & 1), f + 1);
        }
        due("as so", x.of(0, 8), 0xAA);
        due("the other way", x.say(0, 0, 1), 8);
        due("the other way, too", x.say(0, 1, 0), 8);
        due("as so now", x.of(0, 8), 0xA9);
        for (int f = 0; f < 8; f++) {
            due("no more, FACT " + f, x.say(0, f, 2), 7 - f);
        }
        due("none", x.of(0, 7), 0);
        due("none as so", x.of(0, 8), 0);
    }

    @Sentence(of = "Promise 14", says = "NONE: no such ones")
    void promise14None() {
        for (int how = 0; how < 3; how++) {
            StruckCounts x = suited();
            for (int bad : beyond(4)) {
                due("say(0, " + bad + ", " + how + ")", x.say(0, bad, how), NONE);
            }
            for (int bad : beyond(2)) {
                due("say(" + bad + ", 0, " + how + ")", x.say(bad, 0, how), NONE);
            }
            due("no act", x.count(7), 0);
        }
        StruckCounts x = suited();
        for (int bad : beyond(3)) {
            due("say(0, 0, " + bad + ")", x.say(0, 0, bad), NONE);
            due("say(0, 3, " + bad + ")", x.say(0, 3, bad), NONE);
        }
        due("no act", x.count(7), 0);
    }

    @Sentence(of = "Promise 14", says = "-2: it is STRUCK")
    void promise14Struck() {
        for (int how = 0; how < 3; how++) {
            StruckCounts x = suited();
            x.strike(0);
            due("STRUCK, how " + how, x.say(0, 3, how), -2);
            due("STRUCK, said, how " + how, x.say(0, 0, how), -2);
            due("not the other one", x.say(1, 3, 1), 3);
        }
        StruckCounts x = suited();
        x.strike(0);
        refused("STRUCK", x, -2, y -> y.say(0, 3, 1));
    }

    @Sentence(of = "Promise 14", says = "-3: it says so already (2: it does not say it)")
    void promise14Already() {
        for (int said = 0; said < 3; said++) {
            for (int how = 0; how < 3; how++) {
                StruckCounts x = Check.suited("fact a;" + count("k", "a"));
                x.say(0, 0, said);
                due("said " + said + ", then " + how, x.say(0, 0, how), said == how ? -3 : how == 2 ? 0 : 1);
            }
        }
    }

    @Sentence(of = "Promise 14", says = "-4: the FACT is KNOWN, the other way (of how 0, 1)")
    void promise14KnownTheOtherWay() {
        for (int is = 0; is < 2; is++) {
            for (int how = 0; how < 2; how++) {
                StruckCounts x = suited();
                x.answer(3, is);
                due("ADMITTED " + is + ", how " + how, x.say(0, 3, how), is == how ? 3 : -4);
                x = closed();
                x.find(3, is == 1);
                due("FOUND " + is + ", how " + how, x.say(0, 3, how), is == how ? 3 : -4);
            }
        }
        StruckCounts x = sayingWhatIsKnownOtherwise();
        due("no more of what is KNOWN otherwise", x.say(0, 0, 2), 1);
        due("which can't be said again", x.say(0, 0, 1), -4);
        x = suited();
        x.answer(2, 1);
        due("no more, said as not so of what is KNOWN so", x.say(0, 2, 2), 1);
        due("no more, said as so of what is KNOWN so", x.say(1, 2, 2), 1);
        x = suited();
        x.answer(0, 1);
        due("what a NEVER rules out can be said", x.say(0, 1, 1), 3);
        x.answer(3, 2);
        due("DENIED is not KNOWN", x.say(0, 3, 1), 4);
    }

    // ---- promises 15 to 17

    @Sentence(of = "Promise 15", says = "a COUNT more, made like another one (also a STRUCK one): its ELEMENTS and PLEAS; "
            + "it says nothing, is FILED on this DAY")
    void promise15LikeAStruckOne() {
        StruckCounts x = Check.suited("fact a;fact b;" + count("k", "a needs b") + "plea k a&!a;says k a;says k b;");
        x.strike(0);
        x.days(4);
        due("its number", x.add(0, 9, 8), 1);
        int[] want = {9, 8, 4, 4, 12, 2, 1, 0, 0, 3, 0};
        for (int what = 0; what < want.length; what++) {
            due("of(1, " + what + ")", x.of(1, what), want[what]);
        }
        due("an ELEMENT", x.element(1, 1, 2), 2);
        due("a PLEA", x.bar(1, 0, 2), 0);
        x.say(1, 0, 1);
        x.say(1, 1, 1);
        due("it STANDS", x.of(1, 9), 0);
        due("the one that it is like says nothing else", x.of(0, 7), 3);
        // A number that is undone is given again, and nothing is left of what stood there.
        x.strike(1);
        x.undo();
        x.undo();
        x.undo();
        x.undo();
        due("its number again", x.add(0, 1, 1), 1);
        due("it says nothing", x.of(1, 7), 0);
        due("it is not STRUCK", x.of(1, 9), 3);
    }

    @Sentence(of = "Promise 15", says = "has this WORTH (0 to 999), AROSE so many days (0 to 999) ahead of DAY 0: its "
            + "number.")
    void promise15WorthAndArose() {
        int[][] right = {{0, 0}, {999, 999}, {0, 999}, {999, 0}};
        StruckCounts x = suited();
        for (int i = 0; i < 4; i++) {
            due("its number", x.add(0, right[i][0], right[i][1]), i + 2);
            due("WORTH", x.of(i + 2, 0), right[i][0]);
            due("AROSE", x.of(i + 2, 1), right[i][1]);
        }
    }

    @Sentence(of = "Promise 15", says = "NONE: no such COUNT, numbers that can't be")
    void promise15None() {
        StruckCounts x = suited();
        for (int bad : beyond(2)) {
            due("like " + bad, x.add(bad, 1, 1), NONE);
        }
        for (int bad : beyond(1000)) {
            due("WORTH " + bad, x.add(0, bad, 1), NONE);
            due("AROSE " + bad, x.add(0, 1, bad), NONE);
        }
        due("no act", x.count(7), 0);
        due("no COUNT more", x.count(2), 2);
        due("no COUNT", new StruckCounts().add(0, 1, 1), NONE);
    }

    @Sentence(of = "Promise 15", says = "-2: there are 8.")
    void promise15ThereAre8() {
        StruckCounts x = suited();
        for (int k = 2; k < 8; k++) {
            due("number " + k, x.add(k - 1, 1, 1), k);
        }
        refused("there are 8", x, -2, y -> y.add(0, 1, 1));
        x.strike(3);
        due("a STRUCK one counts, too", x.add(0, 1, 1), -2);
        x.undo();
        x.undo();
        due("undone, there are 7", x.add(0, 1, 1), 7);
        due("and 8", x.add(0, 1, 1), -2);
    }

    @Sentence(of = "Promise 16", says = "a COUNT is STRUCK for good: how many are not.")
    void promise16HowManyAreNot() {
        StruckCounts x = suited();
        for (int k = 2; k < 8; k++) {
            x.add(0, 1, 1);
        }
        for (int k = 7; k >= 0; k--) {
            due("strike(" + k + ")", x.strike(k), k);
            due("FAILING", x.of(k, 9), 1);
        }
        due("all STRUCK", x.count(3), 0);
        due("COUNTS", x.count(2), 8);
        x = suited();
        x.strike(0);
        due("one more", x.add(0, 1, 1), 2);
        due("of three one is not", x.strike(1), 1);
    }

    @Sentence(of = "Promise 16", says = "NONE: no such COUNT")
    void promise16None() {
        StruckCounts x = suited();
        for (int k : beyond(2)) {
            due("strike(" + k + ")", x.strike(k), NONE);
        }
        due("no act", x.count(7), 0);
        due("no COUNT", new StruckCounts().strike(0), NONE);
    }

    @Sentence(of = "Promise 16", says = "-2: it is STRUCK already.")
    void promise16StruckAlready() {
        StruckCounts x = suited();
        x.strike(1);
        refused("STRUCK already", x, -2, y -> y.strike(1));
        due("not the other one", x.strike(0), 0);
        due("STRUCK already, too", x.strike(0), -2);
        x.undo();
        due("not STRUCK again", x.strike(0), 0);
    }

    @Sentence(of = "Promise 17", says = "so many days (1 to 999) go by: the DAY.")
    void promise17Days1To999() {
        StruckCounts x = new StruckCounts();
        due("1", x.days(1), 1);
        due("999", x.days(999), 1000);
        due("2", x.days(2), 1002);
        due("998", x.days(998), 2000);
        due("the DAY", x.count(4), 2000);
    }

    @Sentence(of = "Promise 17", says = "NONE: not as told")
    void promise17None() {
        StruckCounts x = new StruckCounts();
        for (int n : beyond(1000)) {
            due("days(" + n + ")", x.days(n), NONE);
        }
        due("days(0)", x.days(0), NONE);
        due("no act", x.count(7), 0);
        due("the DAY", x.count(4), 0);
    }

    @Sentence(of = "Promise 17", says = "-2: it would be above 9999.")
    void promise17Above9999() {
        StruckCounts x = new StruckCounts();
        for (int i = 1; i <= 10; i++) {
            due("999, time " + i, x.days(999), 999 * i);
        }
        due("10 more would be 10000", x.days(10), -2);
        due("999 more", x.days(999), -2);
        due("9 more are 9999", x.days(9), 9999);
        refused("1 more", x, -2, y -> y.days(1));
        x.undo();
        due("8 more", x.days(8), 9998);
        due("2 more", x.days(2), -2);
        due("1 more", x.days(1), 9999);
    }

    // ---- promises 18 to 20

    @Sentence(of = "Promise 18", says = "The latest act that was not undone is undone: how many more can be")
    void promise18TheLatestThatWasNotUndone() {
        StruckCounts x = suited();
        x.days(1);
        x.days(2);
        due("the second", x.undo(), 1);
        due("DAY 1", x.count(4), 1);
        x.days(4);
        due("DAY 5", x.count(4), 5);
        due("the third", x.undo(), 1);
        due("DAY 1", x.count(4), 1);
        due("the first", x.undo(), 0);
        due("DAY 0", x.count(4), 0);
        x.days(7);
        due("an act behind that", x.undo(), 0);
        due("DAY 0", x.count(4), 0);
    }

    @Sentence(of = "Promise 18", says = "NONE: none can.")
    void promise18NoneCan() {
        due("of a new object", new StruckCounts().undo(), NONE);
        StruckCounts x = suited();
        due("of a new SUIT", x.undo(), NONE);
        x.days(1);
        due("one", x.undo(), 0);
        refused("no more", x, NONE, y -> y.undo());
        x = suited();
        for (int i = 0; i < 20; i++) {
            x.days(1);
        }
        for (int i = 15; i >= 0; i--) {
            due("of twenty, more", x.undo(), i);
        }
        due("no more of twenty", x.undo(), NONE);
        due("and none again", x.undo(), NONE);
        due("the DAY", x.count(4), 4);
    }

    @Sentence(of = "Promise 19", says = "is kept in place i (0, 1): true")
    void promise19KeptInPlace0And1() {
        StruckCounts x = suited();
        due("keep(1)", x.keep(1), true);
        due("nothing kept in 0", x.again(0), false);
        x.days(3);
        due("keep(0)", x.keep(0), true);
        x.days(5);
        x.again(1);
        due("in 1", x.count(4), 0);
        x.again(0);
        due("in 0", x.count(4), 3);
        x.days(9);
        due("keep(0) over it", x.keep(0), true);
        x.again(1);
        due("in 1 still", x.count(4), 0);
        x.again(0);
        due("in 0 now", x.count(4), 12);
        due("of a new object", new StruckCounts().keep(0), true);
    }

    @Sentence(of = "Promise 19", says = "false: no such place.")
    void promise19NoSuchPlace() {
        StruckCounts x = suited();
        for (int i : beyond(2)) {
            due("keep(" + i + ")", x.keep(i), false);
            due("again(" + i + ")", x.again(i), false);
        }
        due("nothing kept in 0", x.again(0), false);
        due("nothing kept in 1", x.again(1), false);
    }

    @Sentence(of = "Promise 20", says = "that is again as it was kept in place i: true")
    void promise20AsItWasKept() {
        StruckCounts x = suited();
        x.answer(3, 1);
        String[] kept = new String[2];
        x.keep(0);
        kept[0] = made(x);
        x.add(0, 3, 3);
        x.strike(1);
        x.say(2, 3, 1);
        x.days(6);
        x.close();
        x.keep(1);
        kept[1] = made(x);
        x.find(1, false);
        for (int i = 0; i < 4; i++) {
            due("again(" + i % 2 + ")", x.again(i % 2), true);
            due("as it was kept", made(x).equals(kept[i % 2]), true);
        }
        due("each an act", x.count(7), 11);
        x.undo();
        due("undone", made(x).equals(kept[0]), true);
        x.undo();
        due("undone", made(x).equals(kept[1]), true);
        // Another COUNT of the same number, in between.
        x = suited();
        x.days(7);
        x.add(0, 9, 8);
        x.keep(0);
        x.undo();
        x.days(3);
        x.add(1, 5, 6);
        int[][] is = {{5, 6, 10, 10, 16, 1, 0, 0, 0, 3, 1}, {9, 8, 7, 7, 15, 1, 0, 0, 0, 3, 0}};
        for (int time = 0; time < 3; time++) {
            for (int what = 0; what < 11; what++) {
                due("of(2, " + what + "), time " + time, x.of(2, what), is[time % 2][what]);
            }
            if (time == 0) {
                x.again(0);
            } else {
                x.undo();
            }
        }
    }

    @Sentence(of = "Promise 20", says = "false: no such place, nothing is kept there.")
    void promise20NothingKeptThere() {
        refused("nothing is kept there, 0", suited(), 0, y -> y.again(0) ? 1 : 0);
        for (int place = 0; place < 2; place++) {
            StruckCounts x = suited();
            x.keep(place);
            int other = 1 - place;
            refused("nothing is kept there, " + other, x, 0, y -> y.again(other) ? 1 : 0);
            due("but here", x.again(place), true);
            for (int i : beyond(2)) {
                due("again(" + i + ")", x.again(i), false);
            }
            due("one act", x.count(7), 1);
        }
        due("of a new object", new StruckCounts().again(0), false);
    }
}
