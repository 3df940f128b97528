import java.math.BigInteger;

/** Promises 6 to 9 and 21 to 25: what there is, and what can be said of it on paper. */
final class PaperTest {
    private static final int NONE = StruckCounts.NONE;
    private static final int[] NO_WHATS = {-1, Integer.MIN_VALUE, Integer.MAX_VALUE, 99};
    /** Worlds: none, a, b, c, ac, bc. */
    private static final String SUIT = "fact a 7;fact b;fact c 2;never a&b;"
            + "count p worth 100 arose 30 needs a needs b|c;count q worth 50 arose 299 needs !a;"
            + "plea q c;plea q b&c;plea p b;says p a;says p c;says q !a;";

    private final Check check = new Check();

    public static void main(String[] args) {
        PaperTest test = new PaperTest();
        test.promise6();
        test.promise7();
        test.promise7Failing();
        test.promise7FailingOrder();
        test.promise7Late();
        test.promise7Back();
        test.promise7Injury();
        test.promise8Seen();
        test.promise8();
        test.promise9();
        test.promise21();
        test.promise22();
        test.promise23();
        test.promise24();
        test.promise24Known();
        test.promise24Back();
        test.promise24None();
        test.promise25();
        test.check.close("PaperTest");
    }

    private void due(String call, long got, long want) {
        check.due(call, got, want);
    }

    private void promise6() {
        StruckCounts x = Check.suited(SUIT);
        int[][] facts = {{7, 0, 2, 3}, {5, 0, 2, 0}, {2, 0, 2, 1}};
        for (int f = 0; f < 3; f++) {
            for (int what = 0; what < 4; what++) {
                due("fact(" + f + ", " + what + ")", x.fact(f, what), facts[f][what]);
            }
            for (int what : NO_WHATS) {
                due("fact(" + f + ", " + what + ")", x.fact(f, what), NONE);
            }
            due("fact(" + f + ", 4)", x.fact(f, 4), NONE);
        }
        for (int f : new int[] {-1, 3, 8, 32, Integer.MAX_VALUE, Integer.MIN_VALUE}) {
            for (int what = 0; what < 4; what++) {
                due("fact(" + f + ", " + what + ")", x.fact(f, what), NONE);
            }
        }
        x.answer(0, 1);
        x.answer(1, 0);
        x.answer(2, 2);
        due("ADMITTED to be so", x.fact(0, 1), 1);
        due("KNOWN to be so", x.fact(0, 2), 1);
        due("ADMITTED not to be so", x.fact(1, 1), 1);
        due("KNOWN not to be so", x.fact(1, 2), 0);
        due("DENIED", x.fact(2, 1), 2);
        due("DENIED is not KNOWN", x.fact(2, 2), 2);
        x.answer(2, 3);
        due("NOT KNOWN", x.fact(2, 1), 3);
        due("NOT KNOWN is not KNOWN", x.fact(2, 2), 2);
        x.close();
        x.find(2, true);
        due("FOUND", x.fact(2, 1), 4);
        due("FOUND is KNOWN", x.fact(2, 2), 1);
        x.strike(0);
        due("STRUCK ones say it, too", x.fact(0, 3), 3);
        x.say(1, 0, 2);
        due("no more", x.fact(0, 3), 1);
    }

    private void promise7() {
        StruckCounts x = Check.suited(SUIT);
        int[][] counts = {{100, 30, 0, 0, 30, 2, 1, 5, 5, 0, 0}, {50, 299, 0, 0, 299, 1, 2, 1, 0, 0, 1}};
        for (int k = 0; k < 2; k++) {
            for (int what = 0; what < 11; what++) {
                due("of(" + k + ", " + what + ")", x.of(k, what), counts[k][what]);
            }
            for (int what : NO_WHATS) {
                due("of(" + k + ", " + what + ")", x.of(k, what), NONE);
            }
            due("of(" + k + ", 11)", x.of(k, 11), NONE);
        }
        for (int k : new int[] {-1, 2, 8, 32, Integer.MAX_VALUE, Integer.MIN_VALUE}) {
            for (int what = 0; what < 11; what++) {
                due("of(" + k + ", " + what + ")", x.of(k, what), NONE);
            }
        }
        x.days(40);
        due("add()", x.add(1, 7, 8), 2);
        int[] added = {7, 8, 40, 40, 48, 1, 2, 0, 0, 3, 1};
        for (int what = 0; what < 11; what++) {
            due("of(2, " + what + ") of an added one", x.of(2, what), added[what]);
        }
    }

    /** Suit of facts a, b (never both), one count that needs a. */
    private StruckCounts one(String more) {
        return Check.suited("fact a;fact b;fact c;never a&b;count k worth 1 arose 300 needs a;" + more);
    }

    private void failing(String what, StruckCounts x, int want) {
        due("FAILING, " + what, x.of(0, 9), want);
        due("COUNTS that STAND, " + what, x.count(3), want == 0 ? 1 : 0);
    }

    private void promise7Failing() {
        failing("it stands", one("says k a;"), 0);
        StruckCounts x = one("says k a;");
        x.strike(0);
        failing("STRUCK", x, 1);
        failing("no WORLD", one("says k a;says k b;"), 2);
        failing("not SURE", one("says k c;"), 3);
        failing("says it not so", one("says k !a;"), 3);
        x = one("says k a;");
        x.answer(0, 0);
        failing("in no KNOWN world", x, 4);
        x = one("says k a;");
        x.answer(1, 1);
        failing("in no KNOWN world, by a NEVER", x, 4);
        failing("a PLEA not alleged", one("says k a;plea k c;"), 0);
        failing("a PLEA alleged", one("says k a;says k c;plea k c;"), 5);
        failing("a PLEA SURE by a NEVER", one("says k a;plea k !b;"), 5);
        failing("the second PLEA", one("says k a;plea k c;plea k c|!c;"), 5);
        x = one("says k a;plea k c;");
        x.answer(2, 1);
        failing("a PLEA SURE by KNOWN", x, 5);
        x = one("says k a;plea k c;");
        x.answer(2, 2);
        failing("a PLEA DENIED", x, 0);
        x = Check.suited("fact a;count k worth 1 arose 300 needs a|!a;");
        failing("SURE without a word", x, 0);
    }

    private void promise7FailingOrder() {
        StruckCounts x = one("says k a;says k b;limit 1;");
        x.strike(0);
        failing("1 ahead of 2", x, 1);
        failing("2 ahead of 6", one("says k a;says k b;limit 1;"), 2);
        x = one("says k c;plea k c;limit 1;");
        x.answer(0, 0);
        failing("3 ahead of 4, 5, 6", x, 3);
        x = one("says k a;says k c;plea k c;limit 1;");
        x.answer(0, 0);
        failing("4 ahead of 5, 6", x, 4);
        failing("5 ahead of 6", one("says k a;says k c;plea k c;limit 1;"), 5);
    }

    private void promise7Late() {
        failing("AGE 300 of 300", one("says k a;"), 0);
        failing("AGE 300 of 299", one("says k a;limit 299;"), 6);
        failing("AGE 300 of 300, told", one("says k a;limit 300;"), 0);
        StruckCounts x = one("says k a;");
        x.days(999);
        failing("the DAY does not matter to what is FILED", x, 0);
    }

    /** Counts like k, which says a, b, c, d from DAY 0 on. */
    private void promise7Back() {
        StruckCounts x = Check.suited("fact a;fact b;fact c;fact d;fact e;fact f;"
                + "count k worth 1 arose 0 needs a;says k a;says k !b;says k c;says k d;");
        due("another of the same DAY", x.add(0, 1, 3), 1);
        x.days(10);
        x.add(0, 1, 5);
        due("says nothing: BACK", x.of(2, 3), 10);
        due("says nothing: AGE", x.of(2, 4), 15);
        x.say(2, 4, 1);
        due("says e: BACK", x.of(2, 3), 10);
        x.say(2, 1, 1);
        due("says e, b: half, the other way: BACK", x.of(2, 3), 0);
        due("says e, b: AGE", x.of(2, 4), 5);
        due("the DAY it was FILED", x.of(2, 2), 10);
        x.say(2, 5, 0);
        due("says e, b, f: a third", x.of(2, 3), 10);
        x.say(2, 0, 0);
        due("says a, b, e, f: half", x.of(2, 3), 0);
        x.strike(0);
        due("a STRUCK one, too", x.of(2, 3), 0);
        x.say(2, 1, 2);
        x.say(2, 5, 2);
        x.say(2, 0, 2);
        x.say(2, 2, 1);
        x.days(10);
        x.add(2, 1, 7);
        x.say(3, 4, 1);
        due("through another: BACK", x.of(3, 3), 0);
        x.say(2, 2, 2);
        due("its BACK is a later one: BACK", x.of(3, 3), 10);
        x.add(0, 1, 1);
        x.say(4, 5, 1);
        due("FILED on the DAY itself", x.of(4, 3), 20);
        x.say(3, 5, 1);
        due("of one DAY neither goes BACK by the other", x.of(4, 3), 20);
        x.say(2, 5, 1);
        due("of two the least", x.of(4, 3), 10);
    }

    private void promise7Injury() {
        String k = " worth 1 arose 1 needs a;";
        String five = "fact a;count k" + k + "count l" + k + "count m" + k + "count n" + k + "count o" + k;
        StruckCounts x = Check.suited(five + "same n l;same o n;");
        int[] least = {0, 1, 2, 1, 1};
        for (int i = 0; i < 5; i++) {
            due("INJURY of " + i, x.of(i, 10), least[i]);
        }
        x.add(4, 1, 1);
        x.add(5, 1, 1);
        x.add(2, 1, 1);
        due("made like 4", x.of(5, 10), 1);
        due("made like one made like 4", x.of(6, 10), 1);
        due("made like 2", x.of(7, 10), 2);
        x = Check.suited(five + "same m n;same o l;same n o;same k m;");
        for (int i = 0; i < 5; i++) {
            due("all through others, " + i, x.of(i, 10), 0);
        }
    }

    /** Of a (so), b (not so) and c (open), as each of these is SEEN, as an ELEMENT and as a PLEA. */
    private void promise8Seen() {
        String[] all = {"1 a", "0 b", "2 c", "0 !a", "1 !b", "2 !c", "0 a&b", "2 a&c", "0 b&c", "0 c&b",
            "1 a&!b", "2 c&c", "1 a|c", "1 c|a", "2 b|c", "0 b|!a", "1 a|b", "2 c|!c", "2 c&!c",
            "1 1 of(a,b,c)", "2 2 of(a,b,c)", "0 3 of(a,b,c)", "1 0 of(b)", "0 2 of(a)", "1 2 of(a,!b,c)",
            "2 3 of(a,!b,c)", "0 1 of(b)", "2 1 of(b,c)", "0 2 of(b,c)", "0 6 of(a,a,a,a,a,b)",
            "1 6 of(a,a,a,a,a,a)", "2 6 of(a,a,a,c,a,a)", "1 5 of(a,a,a,c,a,a)", "2 !(a&c)", "0 !(a|c)",
            "1 !(b&c)", "2 (a|b)&c", "1 a|b&c", "0 (a|c)&b", "1 1 of(2 of(a,b,c),!b)"};
        for (String line : all) {
            int want = line.charAt(0) - '0';
            String e = line.substring(2);
            StruckCounts x = Check.suited("fact a;fact b;fact c;count k worth 1 arose 1 needs " + e
                    + ";plea k " + e + ";says k a;says k !b;");
            due("SEEN " + e, x.element(0, 0, 0), want);
            due("SEEN as a PLEA " + e, x.bar(0, 0, 0), want);
            if (want < 2) {
                due("SURE " + e, x.element(0, 0, 1), want);
            }
        }
    }

    private void promise8() {
        StruckCounts x = Check.suited("fact a;fact b;fact c;never a&b;never !a&!c;"
                + "count k worth 1 arose 1 needs a needs !b needs c|!c needs c;says k a;");
        int[][] want = {{1, 1, 2}, {2, 1, 2}, {2, 1, 1}, {2, 0, 2}};
        for (int i = 0; i < 4; i++) {
            for (int what = 0; what < 3; what++) {
                due("element(0, " + i + ", " + what + ")", x.element(0, i, what), want[i][what]);
            }
            for (int what : new int[] {-1, 3, Integer.MAX_VALUE, Integer.MIN_VALUE}) {
                due("element(0, " + i + ", " + what + ")", x.element(0, i, what), NONE);
            }
        }
        for (int i : new int[] {-1, 4, 20, Integer.MAX_VALUE, Integer.MIN_VALUE}) {
            due("element(0, " + i + ", 0)", x.element(0, i, 0), NONE);
        }
        for (int k : new int[] {-1, 1, 8, Integer.MAX_VALUE, Integer.MIN_VALUE}) {
            due("element(" + k + ", 0, 0)", x.element(k, 0, 0), NONE);
        }
        x.answer(0, 0);
        due("KNOWN not so: in none", x.element(0, 0, 2), 0);
        due("KNOWN by a NEVER: in all", x.element(0, 3, 2), 1);
        due("ALLEGED stays", x.element(0, 0, 1), 1);
        x.withdraw(0);
        x.answer(1, 1);
        due("by a NEVER: in none", x.element(0, 0, 2), 0);
        due("KNOWN so: in none", x.element(0, 1, 2), 0);
        x.say(0, 1, 1);
        due("no WORLD: SURE whatever it is", x.element(0, 3, 1), 1);
        due("but SEEN as it is said", x.element(0, 1, 0), 0);
        due("and open as it is not", x.element(0, 3, 0), 2);
        x.add(0, 1, 1);
        due("a COUNT made like it has its ELEMENTS", x.element(1, 3, 2), 1);
        due("and says nothing", x.element(1, 0, 0), 2);
    }

    private void promise9() {
        StruckCounts x = Check.suited("fact a;fact b;never a&b;count k worth 1 arose 1 needs a;"
                + "count l worth 1 arose 1 needs b;plea l a;plea k b;plea l a|b;says k a;says l b;");
        due("k, first, SEEN", x.bar(0, 0, 0), 2);
        due("k, first, SURE", x.bar(0, 0, 1), 0);
        due("k, first, KNOWN", x.bar(0, 0, 2), 2);
        due("k has one", x.bar(0, 1, 0), NONE);
        due("l, first, SEEN", x.bar(1, 0, 0), 2);
        due("l, second, SEEN", x.bar(1, 1, 0), 1);
        due("l, second, SURE", x.bar(1, 1, 1), 1);
        due("l, second, KNOWN", x.bar(1, 1, 2), 2);
        due("l has two", x.bar(1, 2, 0), NONE);
        x.answer(0, 1);
        due("l, first, KNOWN a", x.bar(1, 0, 2), 1);
        due("l, second, KNOWN a", x.bar(1, 1, 2), 1);
        due("k, first, KNOWN a", x.bar(0, 0, 2), 0);
        due("a COUNT made like it", x.add(1, 1, 1), 2);
        due("has its PLEAS", x.bar(2, 1, 2), 1);
        due("and how many", x.of(2, 6), 2);
        for (int bad : new int[] {-1, 3, Integer.MAX_VALUE, Integer.MIN_VALUE}) {
            due("bar(" + bad + ", 0, 0)", x.bar(bad, 0, 0), NONE);
            due("bar(1, " + bad + ", 0)", x.bar(1, bad, 0), NONE);
            due("bar(1, 0, " + bad + ")", x.bar(1, 0, bad), NONE);
        }
    }

    private void promise21() {
        StruckCounts x = Check.suited(SUIT);
        due("worlds(0)", x.worlds(0), 6);
        due("worlds(1)", x.worlds(1), 6);
        x.answer(2, 1);
        due("worlds(0) stays", x.worlds(0), 6);
        due("worlds(1), c KNOWN", x.worlds(1), 3);
        x.answer(0, 1);
        due("worlds(1), a and c KNOWN", x.worlds(1), 1);
        x.answer(1, 2);
        due("worlds(1), b DENIED", x.worlds(1), 1);
        for (int what : new int[] {-1, 2, Integer.MAX_VALUE, Integer.MIN_VALUE}) {
            due("worlds(" + what + ")", x.worlds(what), NONE);
        }
        due("256", Check.suited("fact a;fact b;fact c;fact d;fact e;fact f;fact g;fact h;").worlds(1), 256);
    }

    private void promise22() {
        StruckCounts x = Check.suited("fact a;fact b;fact c;never a&b;count k worth 1 arose 1 needs a;"
                + "count l worth 1 arose 1 needs a;count m worth 1 arose 1 needs a;"
                + "says k a;says l b;says m !a;says m c;");
        due("by a NEVER", x.clash(0, 1), 1);
        due("either way round", x.clash(1, 0), 1);
        due("by what they say", x.clash(0, 2), 1);
        due("together", x.clash(1, 2), 0);
        due("with itself", x.clash(0, 0), 0);
        x.say(0, 1, 1);
        due("with itself, at odds", x.clash(0, 0), 1);
        x.say(0, 1, 2);
        x.answer(1, 0);
        due("KNOWN does not matter", x.clash(1, 2), 0);
        x.strike(1);
        due("STRUCK does not matter", x.clash(0, 1), 1);
        for (int bad : new int[] {-1, 3, 8, Integer.MAX_VALUE, Integer.MIN_VALUE}) {
            due("clash(" + bad + ", 0)", x.clash(bad, 0), NONE);
            due("clash(0, " + bad + ")", x.clash(0, bad), NONE);
        }
    }

    private void promise23() {
        StruckCounts x = Check.suited("fact a;fact b;fact c;count k worth 1 arose 1 needs a needs b;"
                + "count l worth 1 arose 1 needs a;count m worth 1 arose 1 needs a;plea m c;"
                + "count n worth 1 arose 1 needs a&!a;");
        due("more needs less", x.implied(0, 1), 1);
        due("less does not need more", x.implied(1, 0), 0);
        due("a PLEA bars", x.implied(1, 2), 0);
        due("a PLEA more", x.implied(2, 1), 1);
        due("itself", x.implied(0, 0), 1);
        due("never WON: any", x.implied(3, 0), 1);
        due("never WON: by none", x.implied(0, 3), 0);
        x.answer(1, 1);
        due("by KNOWN", x.implied(1, 0), 1);
        x.answer(2, 0);
        due("the PLEA KNOWN to fail", x.implied(1, 2), 1);
        x.strike(2);
        due("STRUCK does not matter", x.implied(1, 2), 1);
        for (int bad : new int[] {-1, 4, 8, Integer.MAX_VALUE, Integer.MIN_VALUE}) {
            due("implied(" + bad + ", 0)", x.implied(bad, 0), NONE);
            due("implied(0, " + bad + ")", x.implied(0, bad), NONE);
        }
    }

    private void lacks(String what, StruckCounts x, int many, int facts, int so) {
        due("lacks 0: " + what, x.lacks(0, 0), many);
        due("lacks 1: " + what, x.lacks(0, 1), facts);
        due("lacks 2: " + what, x.lacks(0, 2), so);
    }

    private StruckCounts lacking(String rest) {
        return Check.suited("fact a;fact b;fact c;fact d;never a&d;count k worth 1 arose 1 needs " + rest);
    }

    private void promise24() {
        lacks("nothing", lacking("a;says k a;"), 0, 0, 0);
        lacks("all", lacking("a&b;"), 2, 3, 3);
        lacks("one of them", lacking("a&b;says k a;"), 1, 2, 2);
        lacks("the least FACTS", lacking("c|b;"), 1, 2, 2);
        lacks("then the least of them so", lacking("!b|b&c;"), 1, 2, 0);
        lacks("not so ahead of so", lacking("b&!c|!b&c;"), 2, 6, 2);
        lacks("by a NEVER", lacking("!d;"), 1, 1, 1);
        lacks("by a NEVER, the other way", lacking("!a;says k b;"), 1, 1, 0);
        lacks("fewer ahead of lesser", lacking("a&b|d;"), 1, 8, 8);
        lacks("what makes a PLEA fail", lacking("c;says k c;plea k !b;"), 0, 0, 0);
        lacks("a PLEA SURE as it is", lacking("c;says k c;plea k c&!b|c&b;"), -2, -2, -2);
        lacks("a PLEA that what it needs brings", lacking("b|c;plea k b;"), 1, 4, 4);
        lacks("none at all", lacking("a&d;"), -2, -2, -2);
        lacks("of two PLEAS neither", lacking("b|c|d;plea k c;plea k b;"), 1, 8, 8);
        lacks("of two PLEAS the second", lacking("b|c;plea k a;plea k b;"), 1, 4, 4);
        lacks("all eight", Check.suited("fact a;fact b;fact c;fact d;fact e;fact f;fact g;fact h;"
                + "count k worth 1 arose 1 needs a&b&c&d&e&f&g&h;"), 8, 255, 255);
        lacks("two of three", lacking("2 of(b,c,d);"), 2, 6, 6);
        lacks("two of three, one said", lacking("2 of(b,c,d);says k c;"), 1, 2, 2);
        lacks("two of three, one said not so", lacking("2 of(b,c,d);says k !c;"), 2, 10, 10);
        for (int what : new int[] {-1, 3, Integer.MAX_VALUE, Integer.MIN_VALUE}) {
            due("lacks(0, " + what + ")", lacking("a;").lacks(0, what), NONE);
        }
        for (int k : new int[] {-1, 1, 8, Integer.MAX_VALUE, Integer.MIN_VALUE}) {
            due("lacks(" + k + ", 0)", lacking("a;").lacks(k, 0), NONE);
        }
    }

    private void promise24Known() {
        StruckCounts x = lacking("b|c;");
        x.answer(1, 0);
        lacks("not a FACT KNOWN the other way", x, 1, 4, 4);
        x = lacking("b;");
        x.answer(1, 1);
        lacks("what is KNOWN must be said, too", x, 1, 2, 2);
        x = lacking("b;");
        x.answer(1, 0);
        lacks("in no KNOWN world", x, -2, -2, -2);
        x = lacking("b&c;says k b;");
        x.answer(1, 0);
        lacks("what it says is KNOWN the other way", x, -2, -2, -2);
        x = lacking("b;plea k c;");
        x.answer(2, 1);
        lacks("a PLEA KNOWN", x, -2, -2, -2);
        x = lacking("!a;");
        x.answer(0, 0);
        lacks("a KNOWN FACT not so", x, 1, 1, 0);
    }

    private void promise24Back() {
        StruckCounts x = Check.suited("fact a;fact b;fact c;fact d;count l worth 1 arose 1 needs c;"
                + "says l a;says l b;limit 100;");
        x.days(100);
        x.add(0, 1, 1);
        x.say(1, 2, 1);
        due("FAILING of the late one", x.of(1, 9), 6);
        due("it lacks one more FACT of the early one", x.lacks(1, 0), 1);
        due("the least", x.lacks(1, 1), 1);
        due("not so, as whichever way it does", x.lacks(1, 2), 0);
        x.say(1, 3, 1);
        due("it lacks two now", x.lacks(1, 0), 2);
        due("both", x.lacks(1, 1), 3);
        due("not so", x.lacks(1, 2), 0);
        x.answer(0, 1);
        due("as it is KNOWN to be", x.lacks(1, 2), 1);
        x.say(1, 0, 1);
        x.say(1, 1, 0);
        due("and then it STANDS", x.of(1, 9), 0);
        due("and lacks nothing", x.lacks(1, 0), 0);
        x = Check.suited("fact a;fact b;count l worth 1 arose 1 needs a;says l b;limit 100;");
        x.days(100);
        x.add(0, 1, 1);
        due("nothing said: what it needs, and what brings it back", x.lacks(1, 1), 3);
        due("of these so", x.lacks(1, 2), 1);
        x.add(0, 1, 0);
        due("not late: what it needs", x.lacks(2, 1), 1);
    }

    private void promise24None() {
        StruckCounts x = lacking("a;says k a;says k d;");
        lacks("at odds with itself", x, -2, -2, -2);
        x = lacking("a;says k a;");
        x.strike(0);
        lacks("STRUCK", x, -2, -2, -2);
        x = lacking("a;limit 1;");
        lacks("AGE 1 of 1", x, 1, 1, 1);
        x = Check.suited("fact a;count k worth 1 arose 2 needs a;limit 1;");
        lacks("LATE whatever it says", x, -2, -2, -2);
    }

    private void promise25() {
        StruckCounts x = Check.suited("fact a;count k worth 100 arose 1 needs a;"
                + "count l worth 9 arose 1 needs a;count m worth 999 arose 1 needs a;"
                + "count n worth 0 arose 1 needs a;count o worth 10 arose 1 needs a;");
        int[] grown = {100, 110, 121, 133, 146, 160};
        for (int n = 0; n < grown.length; n++) {
            due("grown(0, " + n + ")", x.grown(0, n), grown[n]);
        }
        due("9 does not grow", x.grown(1, 400), 9);
        due("0 does not grow", x.grown(3, 400), 0);
        due("10 once", x.grown(4, 1), 11);
        due("10 ten times", x.grown(4, 10), 20);
        BigInteger worth = BigInteger.valueOf(999);
        for (int n = 0; n <= 400; n++) {
            due("grown(2, " + n + ")", x.grown(2, n), worth.bitLength() > 31 ? -2 : worth.intValue());
            worth = worth.add(worth.divide(BigInteger.TEN));
        }
        due("too much, 400 times", x.grown(0, 400), -2);
        for (int n : new int[] {-1, 401, Integer.MAX_VALUE, Integer.MIN_VALUE}) {
            due("grown(0, " + n + ")", x.grown(0, n), NONE);
        }
        for (int k : new int[] {-1, 5, 8, Integer.MAX_VALUE, Integer.MIN_VALUE}) {
            due("grown(" + k + ", 0)", x.grown(k, 0), NONE);
        }
    }
}
