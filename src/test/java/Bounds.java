import java.lang.reflect.InvocationTargetException;
import java.lang.reflect.Method;
import java.util.Arrays;
import java.util.Comparator;

/** Runs the tests of a class that bear a Sentence, and tells by its words which sentence is broken. */
abstract class Bounds {
    static final int NONE = StruckCounts.NONE;
    static final int MIN = Integer.MIN_VALUE;
    static final int MAX = Integer.MAX_VALUE;
    static final String EIGHT = "fact a;fact b;fact c;fact d;fact e;fact f;fact g;fact h;";
    private static final int[] NUMBERS = {MIN, MIN + 1, -65536, -257, -256, -255, -65, -64, -33, -32, -31,
        -16, -9, -8, -5, -4, -3, -2, -1, 0, 1, 2, 3, 4, 5, 6, 7, 8, 9, 10, 11, 12, 15, 16, 17, 31, 32, 33,
        34, 63, 64, 65, 255, 256, 257, 401, 999, 1000, 6561, 65536, 1 << 30, MAX - 1, MAX};

    final Check check = new Check();

    final void runAll() throws IllegalAccessException {
        Method[] methods = getClass().getDeclaredMethods();
        Arrays.sort(methods, Comparator.comparing(Method::getName));
        for (Method method : methods) {
            Sentence sentence = method.getAnnotation(Sentence.class);
            if (sentence != null) {
                run(method, sentence);
            }
        }
        check.close(getClass().getSimpleName());
    }

    private void run(Method method, Sentence sentence) throws IllegalAccessException {
        int wrong = check.wrong();
        int asked = check.asked();
        try {
            method.invoke(this);
        } catch (InvocationTargetException e) {
            due(method.getName() + " threw " + e.getCause(), 1, 0);
        }
        due(method.getName() + " asks something", check.asked() > asked, true);
        if (check.wrong() > wrong) {
            System.out.println("BROKEN by " + method.getName() + ": " + sentence.of() + ": " + sentence.says());
        }
    }

    final void due(String call, long got, long want) {
        check.due(call, got, want);
    }

    final void due(String call, boolean got, boolean want) {
        check.due(call, got, want);
    }

    /** Numbers that are none of 0 to size - 1: next to them, and such as shifts and casts cut to them. */
    static int[] beyond(int size) {
        return Arrays.stream(NUMBERS).filter(n -> n < 0 || n >= size).toArray();
    }

    /** A line that tells a COUNT of a name, with what it needs. */
    static String count(String name, String needs) {
        return "count " + name + " worth 1 arose 1 needs " + needs + ";";
    }

    /** All that a SUIT and acts make, with one FACT and one COUNT more than there are. */
    static String picture(StruckCounts x) {
        StringBuilder s = new StringBuilder();
        int facts = x.count(1);
        int counts = x.count(2);
        for (int f = 0; f <= facts; f++) {
            for (int what = 0; what < 4; what++) {
                s.append(x.fact(f, what)).append(' ');
            }
        }
        for (int k = 0; k <= counts; k++) {
            for (int what = 0; what < 11; what++) {
                s.append(x.of(k, what)).append(' ');
            }
        }
        for (int what = 0; what < 10; what++) {
            s.append(x.count(what)).append(' ');
        }
        return s.append(x.worlds(1)).append(' ').append(x.asked(0)).append(' ').append(x.asked(1)).toString();
    }
}
