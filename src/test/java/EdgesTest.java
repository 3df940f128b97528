import java.util.Random;

/** Any numbers for any call, in many states: nothing throws, and the same calls answer the same. */
final class EdgesTest {
    private static final int[] ODD = {Integer.MIN_VALUE, Integer.MIN_VALUE + 1, -257, -256, -33, -32, -31, -2,
        -1, 0, 1, 2, 3, 4, 5, 6, 7, 8, 9, 10, 15, 16, 17, 31, 32, 33, 63, 64, 65, 255, 256, 257, 400, 401,
        479, 480, 481, 511, 512, 999, 1000, 6560, 6561, 9999, 65536, 1 << 30, Integer.MAX_VALUE - 1,
        Integer.MAX_VALUE};

    private final Random random;
    private final Suits suits;

    private EdgesTest(long seed) {
        random = new Random(seed);
        suits = new Suits(random);
    }

    public static void main(String[] args) {
        Check check = new Check();
        for (long seed = 1; seed <= 400; seed++) {
            long one = new EdgesTest(seed).run();
            check.due("seed " + seed + ", run again", new EdgesTest(seed).run(), one);
        }
        check.close("EdgesTest");
    }

    private int odd() {
        return ODD[random.nextInt(ODD.length)];
    }

    private int some() {
        return random.nextInt(3) == 0 ? odd() : random.nextInt(9);
    }

    /** All answers of a run, put together as one number. */
    private long run() {
        StruckCounts x = new StruckCounts();
        if (random.nextInt(8) > 0) {
            Check.suit(x, suits.suit());
        }
        long sum = 0;
        for (int i = 0; i < 400; i++) {
            sum = sum * 31 + call(x, random.nextInt(46));
        }
        return sum;
    }

    private long call(StruckCounts x, int which) {
        boolean yes = random.nextBoolean();
        int a = some();
        int b = some();
        int c = some();
        switch (which) {
            case 0: return x.sign(random.nextInt());
            case 1: return x.end(a) ? 1 : 0;
            case 2: return random.nextInt(9) == 0 ? x.suit() : 0;
            case 3: return x.fault(a);
            case 4: return x.fact(a, b);
            case 5: return x.of(a, b);
            case 6: return x.element(a, b, c);
            case 7: return x.bar(a, b, c);
            case 8: return x.answer(a, b);
            case 9: return x.withdraw(a);
            case 10: return random.nextInt(9) == 0 ? x.close() : 0;
            case 11: return x.find(a, yes);
            case 12: return x.say(a, b, c);
            case 13: return x.add(a, b, c);
            case 14: return random.nextInt(9) == 0 ? x.strike(a) : 0;
            case 15: return x.days(a);
            case 16: return x.undo();
            case 17: return x.keep(a) ? 1 : 0;
            case 18: return x.again(a) ? 1 : 0;
            case 19: return x.worlds(a);
            case 20: return x.clash(a, b);
            case 21: return x.implied(a, b);
            case 22: return x.lacks(a, b);
            case 23: return x.grown(a, b);
            case 24: return x.issues(a);
            case 25: return x.judged(a);
            case 26: return x.tries(a, b);
            case 27: return x.chance(a, b);
            case 28: return x.award(a);
            case 29: return x.meant(a);
            case 30: return x.outcomes();
            case 31: return x.outcome(a, b);
            case 32: return x.proofs(a, yes);
            case 33: return x.proof(a, yes, b, c);
            case 34: return x.duel(a, b);
            case 35: return x.turn(a, b, c);
            case 36: return x.together(a);
            case 37: return x.elect(a);
            case 38: return x.ask();
            case 39: return x.asked(a);
            case 40: return x.count(a);
            case 41: return Check.ask(x, suits.expr(4, 3));
            case 42: return Check.ask(x, suits.soup());
            case 43: return random.nextInt(5) == 0 ? Check.suit(x, suits.suit()) : 0;
            case 44: return Check.suit(x, suits.broken(suits.suit()));
            default: return Check.suit(x, suits.soup());
        }
    }
}
