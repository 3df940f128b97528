import java.util.Random;

/** Runs of calls by a seed: the program has to answer each as the model does. */
final class ModelTest {
    private static final int RUNS = 120;
    private static final int CALLS = 512;

    private final Check check = new Check();
    private final Random random;
    private final Suits suits;
    private final StringBuilder run = new StringBuilder();
    private StruckCounts x;
    private Model y;
    private int calls;

    private ModelTest(long seed) {
        random = new Random(seed);
        suits = new Suits(random);
    }

    public static void main(String[] args) {
        long from = args.length > 0 ? Long.parseLong(args[0]) : 1;
        long runs = args.length > 1 ? Long.parseLong(args[1]) : RUNS;
        long answers = 0;
        for (long seed = from; seed < from + runs; seed++) {
            ModelTest test = new ModelTest(seed);
            test.go();
            answers += test.calls;
            if (test.check.wrong() > 0) {
                System.out.println("seed " + seed + "\n" + test.run);
                System.exit(1);
            }
        }
        System.out.println("ModelTest: " + runs + " runs, " + answers + " answers alike");
    }

    private int below(int n) {
        return random.nextInt(n);
    }

    private void same(String call, long got, long want) {
        calls++;
        run.append(call).append(" -> ").append(want).append('\n');
        check.due(call, got, want);
    }

    private void same(String call, boolean got, boolean want) {
        same(call, got ? 1 : 0, want ? 1 : 0);
    }

    private void go() {
        x = new StruckCounts();
        y = new Model();
        calls = 0;
        for (int i = below(20) > 0 ? 0 : 20; i < 20; i++) {
            tell(suits.suit(), true);
            i = y.count(0) > 0 || calls >= CALLS - 140 ? 20 : i;
        }
        while (calls < CALLS - 140 && check.wrong() == 0) {
            int what = below(60);
            if (what == 0) {
                String text = suits.suit();
                tell(below(3) > 0 ? text : suits.broken(text), true);
            } else if (what == 1) {
                String text = below(2) == 0 ? suits.soup() : suits.broken(suits.suit());
                tell(text, true);
            } else if (what < 6) {
                String text = suits.expr(1 + below(8), 3);
                tell(below(4) > 0 ? text : suits.broken(text), false);
            } else if (what < 24) {
                act();
            } else {
                look();
            }
        }
    }

    private void tell(String text, boolean suit) {
        String cut = text.length() > 480 ? text.substring(0, 480) : text;
        run.append("text: ").append(cut).append('\n');
        same("end(0)", x.end(0), y.end(0));
        for (int i = 0; i < cut.length(); i += 4) {
            int v = 0;
            for (int j = i; j < i + 4; j++) {
                v = v << 8 | (j < cut.length() ? cut.charAt(j) & 255 : 32);
            }
            x.sign(v);
            y.sign(v);
            calls++;
        }
        same("end", x.end(cut.length()), y.end(cut.length()));
        if (suit) {
            same("suit()", x.suit(), y.suit());
        } else {
            same("ask()", x.ask(), y.ask());
            same("asked(0)", x.asked(0), y.asked(0));
            same("asked(1)", x.asked(1), y.asked(1));
        }
        same("fault(0)", x.fault(0), y.fault(0));
        same("fault(1)", x.fault(1), y.fault(1));
    }

    /** Mostly one that is there, at times one that is not. */
    private int some(int there) {
        int n = below(30);
        if (n == 0) {
            return there;
        }
        if (n == 1) {
            return new int[] {-1, Integer.MIN_VALUE, Integer.MAX_VALUE, 8, 31, 32, 33, 256}[below(8)];
        }
        return there > 0 ? below(there) : 0;
    }

    private void act() {
        int k = some(y.count(2));
        int f = some(y.count(1));
        int n = below(4) == 0 ? some(3) : below(3);
        switch (below(15)) {
            case 0:
            case 1: {
                int how = some(4);
                same("answer(" + f + ", " + how + ")", x.answer(f, how), y.answer(f, how));
                break;
            }
            case 2:
                same("withdraw(" + f + ")", x.withdraw(f), y.withdraw(f));
                break;
            case 3:
                if (below(2) == 0) {
                    same("close()", x.close(), y.close());
                }
                break;
            case 4:
            case 5: {
                boolean is = below(2) == 0;
                same("find(" + f + ", " + is + ")", x.find(f, is), y.find(f, is));
                break;
            }
            case 6:
            case 7:
            case 8:
                same("say(" + k + ", " + f + ", " + n + ")", x.say(k, f, n), y.say(k, f, n));
                break;
            case 9: {
                int worth = some(1000);
                int arose = some(300);
                same("add(" + k + ", " + worth + ", " + arose + ")", x.add(k, worth, arose),
                        y.add(k, worth, arose));
                break;
            }
            case 10:
                if (below(3) == 0) {
                    same("strike(" + k + ")", x.strike(k), y.strike(k));
                }
                break;
            case 11: {
                int days = below(3) == 0 ? 999 : some(1000);
                same("days(" + days + ")", x.days(days), y.days(days));
                break;
            }
            case 12:
                for (int i = below(4) == 0 ? 17 : 1; i > 0; i--) {
                    same("undo()", x.undo(), y.undo());
                }
                break;
            case 13:
                same("keep(" + n + ")", x.keep(n), y.keep(n));
                break;
            default:
                same("again(" + n + ")", x.again(n), y.again(n));
        }
    }

    private void look() {
        int k = some(y.count(2));
        int b = some(y.count(2));
        int f = some(y.count(1));
        int n = some(3);
        int m = some(2);
        boolean won = below(2) == 0;
        switch (below(24)) {
            case 0: {
                int how = some(4);
                same("fact(" + f + ", " + how + ")", x.fact(f, how), y.fact(f, how));
                break;
            }
            case 1:
            case 2: {
                int what = some(11);
                same("of(" + k + ", " + what + ")", x.of(k, what), y.of(k, what));
                same("of(" + k + ", 9)", x.of(k, 9), y.of(k, 9));
                same("of(" + k + ", 3)", x.of(k, 3), y.of(k, 3));
                break;
            }
            case 3: {
                int i = some(2);
                same("element(" + k + ", " + i + ", " + n + ")", x.element(k, i, n), y.element(k, i, n));
                break;
            }
            case 4: {
                int i = below(2);
                same("bar(" + k + ", " + i + ", " + n + ")", x.bar(k, i, n), y.bar(k, i, n));
                break;
            }
            case 5:
                same("worlds(" + m + ")", x.worlds(m), y.worlds(m));
                break;
            case 6:
                same("clash(" + k + ", " + b + ")", x.clash(k, b), y.clash(k, b));
                break;
            case 7:
                same("implied(" + k + ", " + b + ")", x.implied(k, b), y.implied(k, b));
                break;
            case 8:
            case 9:
                same("lacks(" + k + ", 0)", x.lacks(k, 0), y.lacks(k, 0));
                same("lacks(" + k + ", " + n + ")", x.lacks(k, n), y.lacks(k, n));
                break;
            case 10: {
                int times = some(401);
                same("grown(" + k + ", " + times + ")", x.grown(k, times), y.grown(k, times));
                break;
            }
            case 11:
                same("issues(" + k + ")", x.issues(k), y.issues(k));
                break;
            case 12:
                same("judged(" + k + ")", x.judged(k), y.judged(k));
                break;
            case 13:
                same("tries(" + k + ", " + m + ")", x.tries(k, m), y.tries(k, m));
                break;
            case 14:
                same("chance(" + k + ", " + m + ")", x.chance(k, m), y.chance(k, m));
                break;
            case 15:
                same("award(" + n + ")", x.award(n), y.award(n));
                break;
            case 16:
                same("meant(" + m + ")", x.meant(m), y.meant(m));
                break;
            case 17:
                same("outcomes()", x.outcomes(), y.outcomes());
                same("outcome(" + m + ", " + n + ")", x.outcome(m, n), y.outcome(m, n));
                int i = some(y.outcomes());
                same("outcome(" + i + ", " + n + ")", x.outcome(i, n), y.outcome(i, n));
                break;
            case 18: {
                int all = y.proofs(k, won);
                same("proofs(" + k + ", " + won + ")", x.proofs(k, won), all);
                int one = some(Math.max(1, all));
                same("proof(" + k + ", " + won + ", " + one + ", " + m + ")", x.proof(k, won, one, m),
                        y.proof(k, won, one, m));
                break;
            }
            case 19:
                same("duel(" + k + ", " + m + ")", x.duel(k, m), y.duel(k, m));
                same("turn(" + k + ", " + m + ", " + n + ")", x.turn(k, m, n), y.turn(k, m, n));
                break;
            case 20: {
                int set = some(1 << y.count(2));
                same("together(" + set + ")", x.together(set), y.together(set));
                break;
            }
            case 21:
                same("elect(" + m + ")", x.elect(m), y.elect(m));
                break;
            case 22:
                same("asked(" + m + ")", x.asked(m), y.asked(m));
                break;
            default:
                int what = some(10);
                same("count(" + what + ")", x.count(what), y.count(what));
                same("count(3)", x.count(3), y.count(3));
        }
    }
}
