/** Promises 1 to 5: a new object, THE TEXT, and what of it is a SUIT. */
final class TextsTest {
    private static final int NONE = StruckCounts.NONE;
    private static final String EIGHT = "fact a;fact b;fact c;fact d;fact e;fact f;fact g;fact h;";
    private static final String C = "fact a;count c worth 1 arose 1 needs a";

    private final Check check = new Check();

    public static void main(String[] args) {
        TextsTest test = new TextsTest();
        test.promise1();
        test.promise2();
        test.promise3();
        test.promise4Lines();
        test.promise4Resets();
        test.promise4Stays();
        test.promise5();
        test.fault1();
        test.fault1InExpressions();
        test.fault2();
        test.fault3();
        test.fault4();
        test.fault4Open();
        test.fault4Seventh();
        test.fault5();
        test.expressions();
        test.check.close("TextsTest");
    }

    private void due(String call, long got, long want) {
        check.due(call, got, want);
    }

    private void due(String call, boolean got, boolean want) {
        check.due(call, got, want);
    }

    private void promise1() {
        StruckCounts x = new StruckCounts();
        int[] counts = {0, 0, 0, 0, 0, 0, 0, 0, 0, 300};
        for (int what = 0; what < counts.length; what++) {
            due("new: count(" + what + ")", x.count(what), counts[what]);
        }
        due("NONE", NONE, -1);
        due("new: worlds(0)", x.worlds(0), 1);
        due("new: worlds(1)", x.worlds(1), 1);
        due("new: outcomes()", x.outcomes(), 1);
        due("new: outcome(0, 1)", x.outcome(0, 1), 1);
        due("new: meant(1)", x.meant(1), 1);
        due("new: undo()", x.undo(), NONE);
        due("new: end(1)", x.end(1), false);
        due("new: fact(0, 0)", x.fact(0, 0), NONE);
        due("new: of(0, 0)", x.of(0, 0), NONE);
    }

    private void promise2() {
        StruckCounts x = new StruckCounts();
        for (int i = 1; i <= 120; i++) {
            due("sign " + i, x.sign(0x20202020), 4 * i);
        }
        due("the 121st sign", x.sign(0x20202020), NONE);
        due("count(8) of a full text", x.count(8), 480);
        due("end(477)", x.end(477), true);
        due("sign behind 477", x.sign(0x20202020), NONE);
        due("none of the four came", x.count(8), 477);
        due("end(476)", x.end(476), true);
        due("sign behind 476", x.sign(0x20202020), 480);
        due("480 blanks are a SUIT without lines", x.suit(), 0);
        // The highest byte first, and bytes above 127 as they are.
        x.sign('f' << 24 | 'a' << 16 | 'c' << 8 | 't');
        x.sign(' ' << 24 | 'a' << 16 | ';' << 8 | 0xFF);
        due("suit() with sign 255", x.suit(), NONE);
        due("its place", x.fault(1), 7);
        x.sign(0xFF000000);
        due("suit() of sign 255", x.suit(), NONE);
        due("its place", x.fault(1), 0);
        due("its fault", x.fault(0), 1);
    }

    private void promise3() {
        StruckCounts x = new StruckCounts();
        due("end(0) of nothing", x.end(0), true);
        due("end(-1)", x.end(-1), false);
        due("end(MIN)", x.end(Integer.MIN_VALUE), false);
        due("end(1) of nothing", x.end(1), false);
        Check.text(x, "fact a;x");
        due("end(9) of 8", x.end(9), false);
        due("still 8", x.count(8), 8);
        due("end(8) of 8", x.end(8), true);
        due("end(7)", x.end(7), true);
        due("7 now", x.count(8), 7);
        due("end(8) of 7", x.end(8), false);
        due("the first 7 are a SUIT", x.suit(), 1);
        due("no signs then", x.count(8), 0);
        due("end(1) then", x.end(1), false);
    }

    private void promise4Lines() {
        StruckCounts x = check.right(13, "fact a 9;fact b;fact c 1;never a&b;never c&b;"
                + "count p worth 0 arose 999 needs a|b needs !c;count q worth 999 arose 0 needs b;"
                + "plea p c;plea p b&c;says p !a;says q b;same q p;limit 999;");
        due("facts", x.count(1), 3);
        due("counts", x.count(2), 2);
        due("limit", x.count(9), 999);
        due("odds a", x.fact(0, 0), 9);
        due("odds b", x.fact(1, 0), 5);
        due("odds c", x.fact(2, 0), 1);
        due("worth p", x.of(0, 0), 0);
        due("arose p", x.of(0, 1), 999);
        due("needs p", x.of(0, 5), 2);
        due("pleas p", x.of(0, 6), 2);
        due("worth q", x.of(1, 0), 999);
        due("injury of q", x.of(1, 10), 0);
        due("worlds", x.worlds(0), 5);
        check.right(0, "");
        check.right(0, "  \n ");
        check.right(1, "\nfact\na\n;\n");
        check.right(1, "fact a5;");
        due("a5 is a name and its odds", Check.suited("fact a5;").fact(0, 0), 5);
        due("a9 likewise", Check.suited("fact a9;").fact(0, 0), 9);
        due("009 is 9", Check.suited("fact a 009;").fact(0, 0), 9);
        check.right(1, "fact abcdef;");
        check.right(2, "fact a;never!a;");
        check.right(1, "limit 1;");
        check.right(8, EIGHT);
        check.right(14, EIGHT + "never a&b;never a&b;never a&b;never a&b;never a&b;never a&b;");
        check.right(2, C + " needs a needs a needs a;");
        check.right(6, "fact a;count b worth 1 arose 1 needs a;count c worth 1 arose 1 needs a;"
                + "count d worth 1 arose 1 needs a;count e worth 1 arose 1 needs a;"
                + "count f worth 1 arose 1 needs a;");
        check.right(8, C + ";plea c a;plea c a;plea c a;plea c a;plea c a;plea c a;");
        due("numbers go from 0 on", Check.suited(EIGHT + "never !h;").worlds(0), 128);
    }

    private void promise4Resets() {
        StruckCounts x = Check.suited(C + ";says c a;");
        x.keep(0);
        x.keep(1);
        x.answer(0, 2);
        x.days(5);
        x.add(0, 1, 1);
        x.close();
        Check.ask(x, "a");
        due("asked ahead", x.asked(1), 2);
        due("suit()", Check.suit(x, "fact a;fact b 7;count c worth 2 arose 3 needs b;"), 3);
        due("DAY 0", x.count(4), 0);
        due("not CLOSED", x.count(5), 0);
        due("no act", x.count(7), 0);
        due("nothing to be undone", x.undo(), NONE);
        due("nothing kept in 0", x.again(0), false);
        due("nothing kept in 1", x.again(1), false);
        due("nothing ASKED", x.asked(0), NONE);
        due("FACT 0 open", x.fact(0, 1), 0);
        due("one COUNT", x.count(2), 1);
        due("it is FILED on DAY 0", x.of(0, 2), 0);
        due("it says nothing", x.of(0, 7), 0);
        due("LIMIT 300", x.count(9), 300);
        due("odds", x.fact(1, 0), 7);
        due("suit() of nothing", x.suit(), 0);
        due("no FACTS", x.count(1), 0);
        due("no COUNTS", x.count(2), 0);
        due("one world", x.worlds(0), 1);
    }

    private void promise4Stays() {
        StruckCounts x = Check.suited(C + ";says c a;limit 77;");
        x.days(5);
        x.keep(0);
        x.answer(0, 1);
        Check.ask(x, "!a|a");
        due("suit() with a FAULT", Check.suit(x, "fact a;fact b;limit 5;fact b;"), NONE);
        due("LINES stay", x.count(0), 4);
        due("FACTS stay", x.count(1), 1);
        due("COUNTS stay", x.count(2), 1);
        due("the DAY stays", x.count(4), 5);
        due("KNOWN stays", x.count(6), 1);
        due("acts stay", x.count(7), 2);
        due("THE TEXT is empty", x.count(8), 0);
        due("LIMIT stays", x.count(9), 77);
        due("says stay", x.of(0, 7), 1);
        due("ASKED stays", x.asked(1), 1);
        due("undo() goes on", x.undo(), 1);
        due("what was kept stays", x.again(0), true);
        due("elements stay", x.element(0, 0, 0), 1);
    }

    private void promise5() {
        StruckCounts x = new StruckCounts();
        due("ahead of any, fault(0)", x.fault(0), 0);
        due("ahead of any, fault(1)", x.fault(1), NONE);
        for (int what : new int[] {-1, 2, Integer.MIN_VALUE, Integer.MAX_VALUE}) {
            due("fault(" + what + ")", x.fault(what), NONE);
        }
        Check.suit(x, "fact a 0;");
        due("fault(0)", x.fault(0), 2);
        due("fault(1)", x.fault(1), 7);
        due("fault(2)", x.fault(2), NONE);
        Check.ask(x, "zz");
        due("of ask(), fault(0)", x.fault(0), 3);
        due("of ask(), fault(1)", x.fault(1), 0);
        Check.suit(x, "fact a;");
        due("none now, fault(0)", x.fault(0), 0);
        due("none now, fault(1)", x.fault(1), NONE);
        Check.ask(x, "a b");
        due("of ask() again", x.fault(0), 1);
        Check.ask(x, "a");
        due("none again, fault(0)", x.fault(0), 0);
        due("none again, fault(1)", x.fault(1), NONE);
    }

    private void fault1() {
        check.fault(1, "^;");
        check.fault(1, "fact a;^;");
        check.fault(1, "^a;");
        check.fault(1, "^of;");
        check.fault(1, "^7;");
        check.fault(1, "^Fact a;");
        check.fault(1, "fact ^A;");
        check.fault(1, "fact a^\t;");
        check.fault(1, "fact a^\r;");
        check.fault(1, "fact a^-;");
        check.fault(1, "fact ^abcdefg;");
        check.fault(1, "fact ^factfact;");
        check.fault(1, "fact a ^1234;");
        check.fault(1, "fact ^5;");
        check.fault(1, "fact ^;");
        check.fault(1, "fact^");
        check.fault(1, "fact a^");
        check.fault(1, "fact a  ^");
        check.fault(1, "fact a 5 ^5;");
        check.fault(1, "fact a ^b;");
        for (String word : new String[] {"fact", "never", "count", "worth", "arose", "needs", "plea",
            "says", "same", "limit", "of"}) {
            check.fault(1, "fact ^" + word + ";");
            check.fault(1, "fact a;count ^" + word + " worth 1 arose 1 needs a;");
            check.fault(1, C + ";says ^" + word + " a;");
            check.fault(1, C + ";says c ^" + word + ";");
            check.fault(1, C + ";same c ^" + word + ";");
            check.fault(1, "fact a;never ^" + word + ";");
        }
        check.fault(1, "fact a;count c ^needs a;");
        check.fault(1, "fact a;count c worth ^a arose 1 needs a;");
        check.fault(1, "fact a;count c worth ^1000 arose 1 needs a;");
        check.fault(1, "fact a;count c worth 1 ^needs a;");
        check.fault(1, "fact a;count c worth 1 arose ^needs a;");
        check.fault(1, "fact a;count c worth 1 arose 1^;");
        check.fault(1, "fact a;count c worth 1 arose 1 ^a;");
        check.fault(1, C + "^");
        check.fault(1, C + ";plea ^!a;");
        check.fault(1, C + ";plea c^;");
        check.fault(1, C + ";plea c a^");
        check.fault(1, C + ";says ^!a;");
        check.fault(1, C + ";says c^;");
        check.fault(1, C + ";says c !^!a;");
        check.fault(1, C + ";says c ^(a);");
        check.fault(1, C + ";says c a^|a;");
        check.fault(1, C + ";same ^;");
        check.fault(1, C + ";same c^;");
        check.fault(1, "limit^;");
        check.fault(1, "limit ^a;");
        check.fault(1, "limit ^1000;");
        check.fault(1, "limit 5^");
    }

    private void fault1InExpressions() {
        check.fault(1, "fact a;never^;");
        check.fault(1, "fact a;never a ^a;");
        check.fault(1, "fact a;never a^,a;");
        check.fault(1, "fact a;never a^);");
        check.fault(1, "fact a;never (a^;");
        check.fault(1, "fact a;never (^);");
        check.fault(1, "fact a;never (a^,a);");
        check.fault(1, "fact a;never !^;");
        check.fault(1, "fact a;never a&^;");
        check.fault(1, "fact a;never a|^|a;");
        check.fault(1, "fact a;never ^&a;");
        check.fault(1, "fact a;never a^!a;");
        check.fault(1, "fact a;never 1 ^(a);");
        check.fault(1, "fact a;never 1^;");
        check.fault(1, "fact a;never 1 of ^a;");
        check.fault(1, "fact a;never 1 of(^);");
        check.fault(1, "fact a;never 1 of(a,^);");
        check.fault(1, "fact a;never 1 of(a^;");
        check.fault(1, "fact a;never 1 of(a ^a);");
        check.fault(1, "fact a;never ^1000 of(a);");
        check.fault(1, "fact a;never ^of(a);");
        check.fault(1, "fact a;never a|!a ^x");
    }

    private void fault2() {
        check.fault(2, "fact a ^0;");
        check.fault(2, "fact a ^10;");
        check.fault(2, "fact a ^999 b");
        check.fault(2, "limit ^0;");
        check.fault(2, "limit ^000;");
        check.fault(2, "fact a;never ^7 of(a);");
        check.fault(2, "fact a;never ^7 a;");
        check.fault(2, "fact a;never !(^999 of(a));");
        check.right(2, "fact a;never 6 of(a);");
        check.right(2, "fact a;never !(0 of(a));");
    }

    private void fault3() {
        check.fault(3, "fact a;fact ^a;");
        check.fault(3, "fact a;count ^a worth");
        check.fault(3, C + ";fact ^c;");
        check.fault(3, C + ";count ^c worth 1 arose 1 needs a;");
        check.fault(3, "never ^a;fact a;");
        check.fault(3, "fact a;never a&^b;");
        check.fault(3, "fact a;count c worth 1 arose 1 needs ^c;");
        check.fault(3, C + ";never ^c;");
        check.fault(3, C + ";plea ^a a;");
        check.fault(3, C + ";plea ^d a;");
        check.fault(3, C + ";plea c ^c;");
        check.fault(3, "fact a;says ^a a;");
        check.fault(3, C + ";says c ^c;");
        check.fault(3, C + ";says c !^b;");
        check.fault(3, C + ";says c a;says c ^a;");
        check.fault(3, C + ";says c a;says c !^a;");
        check.fault(3, C + ";says c !a;says c ^a x");
        check.fault(3, C + ";same ^a c;");
        check.fault(3, C + ";same c ^a;");
        check.fault(3, C + ";same c ^c;");
        check.fault(3, C + ";same c ^d;");
        check.fault(3, "limit 5;^limit 6;");
        check.fault(3, "limit 300;^limit");
        String three = C + ";count d worth 1 arose 1 needs a;count e worth 1 arose 1 needs a;same c d;";
        check.fault(3, three + "same c ^d;");
        check.fault(3, three + "same d ^c;");
        // Told through others is not told so already.
        check.right(7, three + "same d e;same e c;");
        check.fault(3, three + "same d e;same e c;same c ^e;");
    }

    private void fault4() {
        check.fault(4, EIGHT + "^fact i;");
        check.fault(4, EIGHT + "^fact");
        check.fault(4, C + " needs a needs a needs a ^needs a;");
        String k = " worth 1 arose 1 needs a;";
        check.fault(4, "fact a;count b" + k + "count c" + k + "count d" + k + "count e" + k + "count f" + k
                + "^count g" + k);
        check.fault(4, "fact a;fact b;never a&b;never a&b;never a&b;never a&b;never a&b;never a&b;^never;");
        check.fault(4, C + ";plea c a;plea c a;plea c a;plea c a;plea c a;plea c a;^plea zz");
    }

    private void fault4Open() {
        check.right(2, "fact a;never !!!!!a;");
        check.fault(4, "fact a;never !!!!!^!a;");
        check.right(2, "fact a;never (((((a)))));");
        check.fault(4, "fact a;never (((((^(a))))));");
        check.right(2, "fact a;never !(!(!a));");
        check.fault(4, "fact a;never !(!(!^(a)));");
        check.right(2, "fact a;never ((((1 of(a)))));");
        check.fault(4, "fact a;never (((((1 of^(a))))));");
        check.fault(4, "fact a;never ((((1 of(^!a)))));");
        check.fault(4, "fact a;never 1 of(1 of(1 of(1 of(1 of(1 of^(a))))));");
        check.fault(2, "fact a;never (((((^7 of(a))))));");
        check.fault(1, "fact a;never (((((1 of^)))));");
        // A ! ends with its ONE, a ( with its ).
        check.right(2, "fact a;never !!!!!a&!!!!!a|!!!!!a;");
        check.right(2, "fact a;never ((((!a&!a))))&(((((a)))));");
        check.fault(4, "fact a;never !!!!!a&!!!!!^!a;");
        // The ! of says is no part of an EXPR.
        check.right(3, C + ";says c !a;");
    }

    private void fault4Seventh() {
        check.right(2, "fact a;never 1 of(a,a,a,a,a,a);");
        check.fault(4, "fact a;never 1 of(a,a,a,a,a,a,^a);");
        check.fault(4, "fact a;never 1 of(a,a,a,a,a,a,^!a);");
        check.fault(4, "fact a;never 1 of(a,a,a,a,a,a,^(a));");
        check.fault(4, "fact a;never 1 of(a,a,a,a,a,a,^6 of(a));");
        check.fault(4, "fact a;never 1 of(a,a,a,a,a,a,^1 x");
        // Of one TOKEN the least.
        check.fault(1, "fact a;never 1 of(a,a,a,a,a,a,^of);");
        check.fault(1, "fact a;never 1 of(a,a,a,a,a,a,^);");
        check.fault(1, "fact a;never 1 of(a,a,a,a,a,a,^");
        check.fault(1, "fact a;never 1 of(a,a,a,a,a,a,^A);");
        check.fault(2, "fact a;never 1 of(a,a,a,a,a,a,^7 of(a));");
        check.fault(3, "fact a;never 1 of(a,a,a,a,a,a,^b);");
        check.fault(4, "fact a;never 1 of(a,1 of(a,a,a,a,a,a,^a));");
    }

    private void fault5() {
        check.fault(5, "fact a;never a;^never !a;");
        check.fault(5, "fact a;^never a|!a;");
        check.fault(5, "fact a;^never 0 of(a);fact");
        check.fault(5, "fact a;fact b;never a;never b;^never!a&!b;");
        check.fault(1, "fact a;never a|!a^");
        check.fault(3, "fact a;never a|!a|^b;");
        check.right(2, "fact a;never 2 of(a);");
        check.right(3, "fact a;never a;never a;");
        check.right(3, "fact a;never !a;fact b;");
    }

    /** How tightly | & ! bind, by which worlds are left. */
    private void expressions() {
        String abc = "fact a;fact b;fact c;";
        int[] worlds = {3, 6, 3, 5, 5, 4, 4, 7, 1, 7, 6, 6};
        String[] nevers = {"a|b&c", "a&b&!c|!a&!b&!c", "a&b|c", "(a|b)&c", "c&(b|a)", "!a", "!(!a)",
            "a&b&c", "a|b|c", "!(a|b|c)", "!a&b", "2 of(a,b,c)&!a|a&b&c"};
        for (int i = 0; i < nevers.length; i++) {
            due("worlds but for " + nevers[i], Check.suited(abc + "never " + nevers[i] + ";").worlds(0),
                    worlds[i]);
        }
        int[] left = {7, 4, 1};
        for (int n = 1; n <= 3; n++) {
            // Worlds in which fewer than n of three are so: 1, 4, 7.
            due(n + " of three", Check.suited(abc + "never " + n + " of(a,b,c);").worlds(0), left[3 - n]);
        }
        due("! ahead of of", Check.suited(abc + "never !1 of(a,b,c);").worlds(0), 7);
        due("one told twice counts twice", Check.suited(abc + "never 2 of(a,a,b);").worlds(0), 4);
    }
}
