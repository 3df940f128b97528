/** Promises 10 to 20: acts, what they answer, and how they are undone. */
final class ActsTest {
    private static final int NONE = StruckCounts.NONE;
    private static final int[] NO_PLACES = {-1, 8, 31, 32, 33, Integer.MAX_VALUE, Integer.MIN_VALUE};
    private static final String SUIT = "fact a;fact b;fact c;fact d;never a&b;"
            + "count k worth 5 arose 1 needs a;count l worth 7 arose 1 needs c;"
            + "says k a;says k !c;says l b;says l c;";

    private final Check check = new Check();

    public static void main(String[] args) {
        ActsTest test = new ActsTest();
        test.promise10();
        test.promise10Refused();
        test.promise11();
        test.promise12();
        test.promise12Struck();
        test.promise13();
        test.promise14();
        test.promise15();
        test.promise16();
        test.promise17();
        test.promise18();
        test.promise18Sixteen();
        test.promise18Each();
        test.promise18Refused();
        test.promise19();
        test.promise20();
        test.check.close("ActsTest");
    }

    private void due(String call, long got, long want) {
        check.due(call, got, want);
    }

    private void due(String call, boolean got, boolean want) {
        check.due(call, got, want);
    }

    private void promise10() {
        StruckCounts x = Check.suited(SUIT);
        due("DENIED", x.answer(0, 2), 1);
        due("NOT KNOWN", x.answer(3, 3), 2);
        due("ADMITTED not so", x.answer(1, 0), 3);
        due("ADMITTED so", x.answer(2, 1), 4);
        due("DENIED, then NOT KNOWN", x.answer(0, 3), 4);
        due("NOT KNOWN, then DENIED", x.answer(0, 2), 4);
        due("DENIED, then ADMITTED", x.answer(0, 1), 4);
        due("how it is", x.fact(0, 1), 1);
        due("and so", x.fact(0, 2), 1);
        due("NOT KNOWN, then ADMITTED not so", x.answer(3, 0), 4);
        due("KNOWN", x.count(6), 4);
        due("all are acts", x.count(7), 8);
    }

    private void promise10Refused() {
        StruckCounts x = Check.suited(SUIT);
        for (int f : new int[] {-1, 4, 8, 32, Integer.MAX_VALUE, Integer.MIN_VALUE}) {
            due("answer(" + f + ", 1)", x.answer(f, 1), NONE);
        }
        for (int how : new int[] {-1, 4, Integer.MAX_VALUE, Integer.MIN_VALUE}) {
            due("answer(0, " + how + ")", x.answer(0, how), NONE);
        }
        x.answer(0, 1);
        for (int how = 0; how < 4; how++) {
            due("ADMITTED already, " + how, x.answer(0, how), -3);
        }
        x.answer(2, 2);
        due("DENIED already", x.answer(2, 2), -3);
        x.answer(2, 3);
        due("NOT KNOWN already", x.answer(2, 3), -3);
        due("no WORLD", x.answer(1, 1), -4);
        due("which changes nothing", x.fact(1, 1), 0);
        due("DENIED leaves all WORLDS", x.answer(1, 2), 3);
        due("acts", x.count(7), 4);
        x.close();
        due("CLOSED, a wrong how", x.answer(3, 4), NONE);
        due("CLOSED, a wrong FACT", x.answer(4, 1), NONE);
        due("CLOSED, ADMITTED", x.answer(0, 1), -2);
        due("CLOSED, OPEN", x.answer(3, 1), -2);
        due("CLOSED, no WORLD", x.answer(1, 1), -2);
    }

    private void promise11() {
        StruckCounts x = Check.suited(SUIT);
        due("OPEN", x.withdraw(0), -3);
        x.answer(0, 1);
        x.answer(1, 2);
        x.answer(2, 3);
        x.answer(3, 0);
        due("DENIED", x.withdraw(1), -3);
        due("NOT KNOWN", x.withdraw(2), -3);
        due("ADMITTED so", x.withdraw(0), 3);
        due("OPEN again", x.fact(0, 1), 0);
        due("not KNOWN", x.fact(0, 2), 2);
        due("once", x.withdraw(0), -3);
        due("ADMITTED not so", x.withdraw(3), 2);
        due("and answered anew", x.answer(3, 1), 3);
        for (int f : new int[] {-1, 4, 8, 32, Integer.MAX_VALUE, Integer.MIN_VALUE}) {
            due("withdraw(" + f + ")", x.withdraw(f), NONE);
        }
        due("acts", x.count(7), 7);
        x.close();
        due("CLOSED, no such FACT", x.withdraw(4), NONE);
        due("CLOSED, ADMITTED", x.withdraw(3), -2);
        due("CLOSED, DENIED", x.withdraw(1), -2);
    }

    private void promise12() {
        StruckCounts x = Check.suited(SUIT);
        x.answer(2, 2);
        // a as k says; b by l would leave no WORLD; c is answered; d nobody says.
        due("close()", x.close(), 1);
        int[][] is = {{1, 1}, {3, 2}, {2, 2}, {0, 2}};
        for (int f = 0; f < 4; f++) {
            due("how " + f + " is", x.fact(f, 1), is[f][0]);
            due("KNOWN of " + f, x.fact(f, 2), is[f][1]);
        }
        due("CLOSED", x.count(5), 1);
        due("an act", x.count(7), 2);
        due("close() again", x.close(), -2);
        due("no act", x.count(7), 2);
        due("undo()", x.undo(), 1);
        due("not CLOSED", x.count(5), 0);
        due("OPEN", x.fact(0, 1), 0);
        due("OPEN, too", x.fact(1, 1), 0);
        due("close() after all", x.close(), 1);
        due("close() of nothing", new StruckCounts().close(), 0);
    }

    private void promise12Struck() {
        StruckCounts x = Check.suited(SUIT);
        // c: k is the first to say it, as not so.
        due("close()", x.close(), 2);
        due("as the first COUNT says it", x.fact(2, 2), 0);
        x = Check.suited(SUIT);
        x.strike(0);
        // With k STRUCK b and c are as l says.
        due("close() without k", x.close(), 2);
        due("a stays OPEN", x.fact(0, 1), 0);
        due("b is so", x.fact(1, 2), 1);
        due("c is so", x.fact(2, 2), 1);
        x = Check.suited(SUIT);
        x.answer(1, 1);
        due("close(), b ADMITTED", x.close(), 1);
        due("a is NOT KNOWN", x.fact(0, 1), 3);
        due("and not KNOWN", x.fact(0, 2), 2);
        x = Check.suited(SUIT);
        x.strike(0);
        x.strike(1);
        due("close() without COUNTS", x.close(), 0);
        due("all OPEN", x.count(6), 0);
    }

    private void promise13() {
        StruckCounts x = Check.suited(SUIT);
        due("not CLOSED", x.find(0, true), -2);
        due("not CLOSED, no such FACT", x.find(4, true), NONE);
        x.answer(2, 2);
        x.close();
        due("ADMITTED", x.find(0, true), -3);
        due("ADMITTED, the other way", x.find(0, false), -3);
        due("no WORLD", x.find(1, true), -4);
        due("which changes nothing", x.fact(1, 1), 3);
        due("NOT KNOWN is FOUND", x.find(1, false), 2);
        due("how it is", x.fact(1, 1), 4);
        due("not so", x.fact(1, 2), 0);
        due("DENIED is FOUND", x.find(2, true), 1);
        due("how it is", x.fact(2, 1), 4);
        due("so", x.fact(2, 2), 1);
        due("FOUND already", x.find(2, true), -3);
        due("OPEN is FOUND", x.find(3, true), 0);
        due("all KNOWN", x.count(6), 4);
        due("one WORLD", x.worlds(1), 1);
        for (int f : new int[] {-1, 4, 8, 32, Integer.MAX_VALUE, Integer.MIN_VALUE}) {
            due("find(" + f + ")", x.find(f, true), NONE);
        }
        due("acts", x.count(7), 5);
        x.undo();
        due("OPEN again", x.fact(3, 1), 0);
        x.undo();
        due("DENIED again", x.fact(2, 1), 2);
    }

    private void promise14() {
        StruckCounts x = Check.suited(SUIT);
        due("as so", x.say(0, 3, 1), 3);
        due("FACTS", x.of(0, 7), 13);
        due("as so", x.of(0, 8), 9);
        due("so already", x.say(0, 3, 1), -3);
        due("the other way", x.say(0, 3, 0), 3);
        due("as so now", x.of(0, 8), 1);
        due("not so already", x.say(0, 3, 0), -3);
        due("no more", x.say(0, 3, 2), 2);
        due("it does not", x.say(0, 3, 2), -3);
        due("FACTS now", x.of(0, 7), 5);
        due("of l too", x.say(1, 0, 0), 3);
        x.answer(3, 1);
        due("KNOWN the other way", x.say(0, 3, 0), -4);
        due("KNOWN that way", x.say(0, 3, 1), 3);
        due("KNOWN that way, once", x.say(0, 3, 1), -3);
        due("no more, KNOWN", x.say(0, 3, 2), 2);
        x.answer(0, 0);
        due("it says so already, KNOWN the other way", x.say(0, 0, 1), -3);
        due("no more, KNOWN the other way", x.say(0, 0, 2), 1);
        due("not again", x.say(0, 0, 1), -4);
        due("what can't be together can be said", x.say(1, 0, 1), -4);
        due("acts", x.count(7), 9);
        for (int how : new int[] {-1, 3, Integer.MAX_VALUE, Integer.MIN_VALUE}) {
            due("say(0, 1, " + how + ")", x.say(0, 1, how), NONE);
        }
        for (int f : new int[] {-1, 4, 8, 32, Integer.MAX_VALUE, Integer.MIN_VALUE}) {
            due("say(0, " + f + ", 1)", x.say(0, f, 1), NONE);
        }
        for (int k : new int[] {-1, 2, 8, 32, Integer.MAX_VALUE, Integer.MIN_VALUE}) {
            due("say(" + k + ", 0, 1)", x.say(k, 0, 1), NONE);
        }
        x.strike(0);
        due("STRUCK", x.say(0, 1, 1), -2);
        due("STRUCK, said already", x.say(0, 2, 0), -2);
        due("STRUCK, KNOWN the other way", x.say(0, 0, 1), -2);
        due("STRUCK, a wrong how", x.say(0, 0, 3), NONE);
        x.close();
        due("CLOSED does not matter", x.say(1, 3, 1), 4);
    }

    private void promise15() {
        StruckCounts x = Check.suited(SUIT);
        for (int worth : new int[] {-1, 1000, Integer.MAX_VALUE, Integer.MIN_VALUE}) {
            due("WORTH " + worth, x.add(0, worth, 1), NONE);
            due("AROSE " + worth, x.add(0, 1, worth), NONE);
        }
        for (int k : new int[] {-1, 2, 8, 32, Integer.MAX_VALUE, Integer.MIN_VALUE}) {
            due("like " + k, x.add(k, 1, 1), NONE);
        }
        due("no act", x.count(7), 0);
        x.days(3);
        x.strike(1);
        due("like a STRUCK one", x.add(1, 999, 0), 2);
        due("it is not STRUCK", x.of(2, 9), 3);
        due("its INJURY", x.of(2, 10), 1);
        due("its DAY", x.of(2, 2), 3);
        due("what it says", x.of(2, 7), 0);
        due("like an added one", x.add(2, 0, 999), 3);
        due("its ELEMENT", x.element(3, 0, 2), 2);
        due("4", x.add(0, 1, 1), 4);
        due("5", x.add(0, 1, 1), 5);
        due("6", x.add(0, 1, 1), 6);
        due("7", x.add(0, 1, 1), 7);
        due("there are 8", x.add(0, 1, 1), -2);
        due("there are 8, WORTH 1000", x.add(0, 1000, 1), NONE);
        due("there are 8, no such COUNT", x.add(8, 1, 1), NONE);
        due("COUNTS", x.count(2), 8);
        due("undo()", x.undo(), 7);
        due("7 COUNTS", x.count(2), 7);
        due("COUNT 7 is gone", x.of(7, 0), NONE);
        due("COUNT 6 is like 0", x.element(6, 0, 0), 2);
        x.say(6, 0, 1);
        x.undo();
        x.undo();
        due("6 again", x.add(1, 8, 9), 6);
        due("it says nothing", x.of(6, 7), 0);
        due("its WORTH", x.of(6, 0), 8);
        due("its INJURY", x.of(6, 10), 1);
        due("no COUNT to be like", new StruckCounts().add(0, 1, 1), NONE);
    }

    private void promise16() {
        StruckCounts x = Check.suited(SUIT);
        due("strike(0)", x.strike(0), 1);
        due("STRUCK already", x.strike(0), -2);
        due("FAILING", x.of(0, 9), 1);
        due("a COUNT still", x.count(2), 2);
        due("strike(1)", x.strike(1), 0);
        x.add(0, 1, 1);
        due("strike(2)", x.strike(2), 0);
        for (int k : new int[] {-1, 3, 8, 32, Integer.MAX_VALUE, Integer.MIN_VALUE}) {
            due("strike(" + k + ")", x.strike(k), NONE);
        }
        x.undo();
        due("STRUCK no more", x.strike(2), 0);
        due("acts", x.count(7), 4);
    }

    private void promise17() {
        StruckCounts x = new StruckCounts();
        due("days(1)", x.days(1), 1);
        due("days(999)", x.days(999), 1000);
        for (int n : new int[] {0, -1, 1000, Integer.MAX_VALUE, Integer.MIN_VALUE}) {
            due("days(" + n + ")", x.days(n), NONE);
        }
        for (int i = 2; i <= 10; i++) {
            due("days(999), " + i, x.days(999), 1 + 999 * i);
        }
        due("beyond 9999", x.days(999), -2);
        due("beyond 9999, and 1000", x.days(1000), NONE);
        due("up to 9998", x.days(7), 9998);
        due("two more", x.days(2), -2);
        due("one more", x.days(1), 9999);
        due("and none", x.days(1), -2);
        due("the DAY", x.count(4), 9999);
        due("acts", x.count(7), 13);
        due("undo()", x.undo(), 12);
        due("the DAY then", x.count(4), 9998);
    }

    private void promise18() {
        StruckCounts x = Check.suited(SUIT);
        due("nothing yet", x.undo(), NONE);
        x.answer(0, 1);
        x.days(7);
        x.strike(0);
        due("3 acts", x.count(7), 3);
        due("undo()", x.undo(), 2);
        due("not STRUCK", x.of(0, 9), 0);
        due("undo()", x.undo(), 1);
        due("DAY 0", x.count(4), 0);
        due("an act in between", x.answer(1, 0), 2);
        due("undo() of that", x.undo(), 1);
        due("b OPEN", x.fact(1, 1), 0);
        due("a ADMITTED", x.fact(0, 1), 1);
        due("undo()", x.undo(), 0);
        due("a OPEN", x.fact(0, 1), 0);
        due("none can", x.undo(), NONE);
    }

    private void promise18Sixteen() {
        StruckCounts x = new StruckCounts();
        for (int i = 1; i <= 40; i++) {
            x.days(i);
            due("acts after " + i, x.count(7), Math.min(i, 16));
        }
        int day = 40 * 41 / 2;
        for (int i = 40; i > 24; i--) {
            due("undo() of " + i, x.undo(), i - 25);
            day -= i;
            due("the DAY", x.count(4), day);
        }
        due("none can", x.undo(), NONE);
        due("the DAY stays", x.count(4), 300);
        due("an act", x.days(5), 305);
        due("undo()", x.undo(), 0);
        due("the DAY", x.count(4), 300);
    }

    /** Each kind of act, undone. */
    private void promise18Each() {
        for (int act = 0; act < 9; act++) {
            StruckCounts x = Check.suited(SUIT);
            x.answer(0, 1);
            x.keep(0);
            String ahead = picture(x);
            switch (act) {
                case 0 -> x.answer(2, 2);
                case 1 -> x.withdraw(0);
                case 2 -> x.close();
                case 3 -> x.answer(3, 0);
                case 4 -> x.say(0, 3, 1);
                case 5 -> x.add(0, 5, 6);
                case 6 -> x.strike(1);
                case 7 -> x.days(9);
                default -> x.say(1, 2, 2);
            }
            due("act " + act + " does something", picture(x).equals(ahead), false);
            due("act " + act + " undone, as many", x.undo(), 1);
            due("act " + act + " undone, as ahead", picture(x).equals(ahead), true);
        }
        StruckCounts x = Check.suited(SUIT);
        x.answer(0, 1);
        x.close();
        String ahead = picture(x);
        x.find(3, true);
        due("find() does something", picture(x).equals(ahead), false);
        due("find() undone, as many", x.undo(), 2);
        due("find() undone, as ahead", picture(x).equals(ahead), true);
    }

    private void promise18Refused() {
        StruckCounts x = Check.suited(SUIT);
        x.answer(0, 1);
        x.days(1);
        x.answer(0, 1);
        x.answer(9, 1);
        x.answer(1, 1);
        x.withdraw(1);
        x.find(2, true);
        x.say(0, 0, 1);
        x.add(0, 1000, 1);
        x.strike(9);
        x.days(0);
        x.again(0);
        x.again(2);
        x.keep(1);
        x.keep(2);
        x.undo();
        due("what is refused, kept, undone is no act", x.count(7), 1);
        due("undo()", x.undo(), 0);
    }

    private static String picture(StruckCounts x) {
        StringBuilder s = new StringBuilder();
        for (int f = 0; f < 4; f++) {
            for (int what = 0; what < 4; what++) {
                s.append(x.fact(f, what)).append(' ');
            }
        }
        for (int k = 0; k < 4; k++) {
            for (int what = 0; what < 11; what++) {
                s.append(x.of(k, what)).append(' ');
            }
        }
        for (int what = 2; what < 7; what++) {
            s.append(x.count(what)).append(' ');
        }
        return s.toString();
    }

    private void promise19() {
        StruckCounts x = Check.suited(SUIT);
        for (int i : NO_PLACES) {
            due("keep(" + i + ")", x.keep(i), false);
        }
        due("keep(2)", x.keep(2), false);
        due("keep(0)", x.keep(0), true);
        x.days(1);
        due("keep(1)", x.keep(1), true);
        due("no act", x.count(7), 1);
        x.days(1);
        due("keep(0) anew", x.keep(0), true);
        x.days(1);
        x.again(1);
        due("as it was kept in 1", x.count(4), 1);
        x.again(0);
        due("as it was kept in 0", x.count(4), 2);
        x.undo();
        x.undo();
        x.undo();
        x.undo();
        due("undone", x.count(4), 1);
        due("what was kept stays, whatever is undone", x.again(0), true);
        due("as it was kept", x.count(4), 2);
    }

    private void promise20() {
        StruckCounts x = Check.suited(SUIT);
        due("nothing kept", x.again(0), false);
        due("nothing kept there either", x.again(1), false);
        x.answer(0, 1);
        x.say(1, 3, 0);
        x.keep(1);
        String kept = picture(x);
        due("nothing kept in 0", x.again(0), false);
        for (int i : NO_PLACES) {
            due("again(" + i + ")", x.again(i), false);
        }
        due("again(2)", x.again(2), false);
        due("no act", x.count(7), 2);
        x.close();
        x.find(1, false);
        x.add(0, 9, 9);
        x.strike(1);
        x.days(77);
        String ahead = picture(x);
        due("again(1)", x.again(1), true);
        due("all is as it was kept", picture(x).equals(kept), true);
        due("an act", x.count(7), 8);
        due("and once more", x.again(1), true);
        due("an act, too", x.count(7), 9);
        due("as kept", picture(x).equals(kept), true);
        x.answer(2, 2);
        x.undo();
        x.undo();
        due("undone", x.undo(), 7);
        due("all is as it was ahead", picture(x).equals(ahead), true);
        due("kept for good", x.again(1), true);
        due("as kept", picture(x).equals(kept), true);
        due("the LIMIT is no part of it", x.count(9), 300);
    }
}
