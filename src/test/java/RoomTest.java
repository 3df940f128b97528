import com.sun.management.ThreadMXBean;
import java.lang.management.ManagementFactory;
import java.util.Random;

/** No call makes an object: all rows come with the constructor, and those are few. */
final class RoomTest {
    private static final int CALLS = 512;
    /** Bytes that one object may take, with all that it holds. */
    private static final long MOST_BYTES = 120_000;

    private static final ThreadMXBean THREADS = (ThreadMXBean) ManagementFactory.getThreadMXBean();
    private static long sum;

    public static void main(String[] args) {
        Check check = new Check();
        int[][] texts = new int[40][];
        Suits suits = new Suits(new Random(7));
        for (int i = 0; i < texts.length; i++) {
            String text = i % 2 == 0 ? suits.suit() : suits.expr(8, 3);
            texts[i] = signs(text.substring(0, Math.min(480, text.length())));
        }
        StruckCounts warm = new StruckCounts();
        for (int i = 0; i < 3; i++) {
            all(warm, texts);
        }
        long ahead = bytes();
        long none = bytes() - ahead;
        ahead = bytes();
        StruckCounts x = new StruckCounts();
        long made = bytes() - ahead - none;
        check.due("an object takes too many bytes: " + made, made > MOST_BYTES ? 1 : 0, 0);
        check.due("and it takes some", made > 10_000 ? 1 : 0, 1);
        // The machine itself takes a few bytes now and then, but not at each go.
        long least = Long.MAX_VALUE;
        for (int i = 0; i < 5; i++) {
            ahead = bytes();
            all(x, texts);
            least = Math.min(least, bytes() - ahead - none);
        }
        check.due("bytes that calls made", least, 0);
        System.out.println("an object takes " + made + " bytes (" + sum % 10 + ")");
        check.close("RoomTest");
    }

    private static long bytes() {
        return THREADS.getThreadAllocatedBytes(Thread.currentThread().getId());
    }

    private static int[] signs(String text) {
        int[] signs = new int[(text.length() + 3) / 4];
        for (int i = 0; i < signs.length * 4; i++) {
            signs[i / 4] = signs[i / 4] << 8 | (i < text.length() ? text.charAt(i) : ' ');
        }
        return signs;
    }

    private static void all(StruckCounts x, int[][] texts) {
        for (int t = 0; t < texts.length; t++) {
            for (int i = 0; i < texts[t].length; i++) {
                sum += x.sign(texts[t][i]);
            }
            sum += t % 2 == 0 ? x.suit() : x.ask();
            for (int i = 0; i < CALLS / 64; i++) {
                acts(x, i);
                looks(x, i & 3, i >> 2);
            }
        }
        sum += x.end(0) ? 1 : 0;
    }

    private static void acts(StruckCounts x, int i) {
        sum += x.answer(i, i & 3) + x.withdraw(i + 1 & 3) + x.say(i & 3, i, i % 3);
        sum += x.add(i & 3, i, i) + x.days(i) + (x.keep(i & 1) ? 1 : 0);
        sum += x.strike(i + 3) + x.close() + x.find(i, true) + x.undo();
        sum += x.undo() + (x.again(i & 1) ? 1 : 0);
    }

    private static void looks(StruckCounts x, int k, int what) {
        sum += x.fault(what) + x.fact(k, what) + x.of(k, what) + x.of(k, 9) + x.element(k, 0, what);
        sum += x.bar(k, 0, what) + x.worlds(what) + x.clash(k, 1) + x.implied(k, 0) + x.lacks(k, what);
        sum += x.grown(k, 30) + x.issues(k) + x.judged(k) + x.tries(k, what) + x.chance(k, what);
        sum += x.award(what) + x.meant(what) + x.outcomes() + x.outcome(k, what);
        sum += x.proofs(k, true) + x.proof(k, false, 1, what) + x.duel(k, what) + x.turn(k, what, 0);
        sum += x.together(k) + x.elect(what) + x.asked(what) + x.count(what) + x.count(3);
    }
}
