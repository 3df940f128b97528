/** A test for each sentence that names a boundary: the face, Terms 1 (THE TEXT), promises 1 to 5. */
final class BoundsOfTextsTest extends Bounds {
    private static final String ONE_COUNT = "fact a;count c worth 1 arose 1 needs a";
    private static final String[] RESERVED = {"fact", "never", "count", "worth", "arose", "needs", "plea",
        "says", "same", "limit", "of"};

    public static void main(String[] args) throws Exception {
        new BoundsOfTextsTest().runAll();
    }

    // ---- What it is, the public face

    @Sentence(of = "What it is", says = "An object is used for at most 512 calls after it has been made")
    void calls512() {
        StruckCounts x = new StruckCounts();
        for (int i = 1; i <= 512; i++) {
            due("days(1), call " + i, x.days(1), i);
        }
        x = new StruckCounts();
        for (int i = 1; i <= 510; i += 2) {
            due("sign(), call " + i, x.sign(0x20202020), 4);
            due("end(0), call " + (i + 1), x.end(0), true);
        }
        due("keep(0), call 511", x.keep(0), true);
        due("again(0), call 512", x.again(0), true);
        x = new StruckCounts();
        // 4 + 1 + 1 calls, then 253 times 2.
        Check.text(x, "fact a;");
        due("suit()", x.suit(), 1);
        for (int i = 0; i < 252; i++) {
            due("answer(), time " + i, x.answer(0, i % 4), 1);
            due("undo(), time " + i, x.undo(), 0);
        }
        due("undo() ahead of the last", x.undo(), NONE);
        due("worlds(1), at the last", x.worlds(1), 2);
    }

    @Sentence(of = "The public face", says = "public static final int NONE = -1;")
    void noneIsMinusOne() {
        due("NONE", StruckCounts.NONE, -1);
    }

    // ---- Terms 1: tokens

    @Sentence(of = "Terms 1", says = "THE TEXT has at most 480 signs.")
    void textOf480Signs() {
        String blanks = " ".repeat(470);
        StruckCounts x = check.right(1, blanks + "limit  7 ;");
        due("LIMIT of a line that ends with the 480th sign", x.count(9), 7);
        check.fault(1, blanks + "limit  7 ^A");
        check.fault(1, blanks + "limit   7^");
        check.fault(1, blanks + "limit  77 ^");
        Check.text(x, "limit 8;" + " ".repeat(472));
        due("480 signs", x.count(8), 480);
        due("four more", x.sign('l' << 24), NONE);
        due("480 still", x.count(8), 480);
        due("and as they were", x.suit(), 1);
        // As many tokens as there can be.
        check.right(2, "fact a;never !a&" + "a|".repeat(231) + "a;");
        x = Check.suited("fact a;");
        due("479 tokens", Check.ask(x, "a&".repeat(239) + "a"), 2);
        due("480 tokens", Check.ask(x, "!a" + "&a".repeat(239)), 0);
        due("478 tokens", Check.ask(x, "a|".repeat(238) + "!a"), 1);
        // A SUIT as long as it can be, and then a question as long as it can be.
        x = check.right(2, "fact a;count c worth 1 arose 1 needs " + "a&".repeat(220) + "!a;");
        due("a question as long as it can be", Check.ask(x, "a|".repeat(238) + "!a"), 1);
        due("the ELEMENT is as it was", x.element(0, 0, 2), 0);
        // And again, behind others that were as long and had a FAULT.
        x = new StruckCounts();
        String needs = "fact a;count c worth 1 arose 1 needs " + "a&".repeat(218);
        due("with a FAULT", Check.suit(x, needs + "b;"), NONE);
        due("with a FAULT again", Check.suit(x, needs + "a"), NONE);
        due("without one", Check.suit(x, needs + "!a;"), 2);
        due("its ELEMENT", x.element(0, 0, 2), 0);
        x = Check.suited("fact a;");
        check.questionFault(x, 1, "a&".repeat(239) + "a&^");
        check.questionFault(x, 1, "a|".repeat(238) + "a ^a");
    }

    @Sentence(of = "Terms 1", says = "TOKENS, as long as they go")
    void tokensAsLongAsTheyGo() {
        due("ODDS of a5", Check.suited("fact a5;").fact(0, 0), 5);
        due("ODDS of a9", Check.suited("fact a9;").fact(0, 0), 9);
        check.right(2, "fact a;fact aa;");
        check.fault(1, "^facta;");
        check.fault(1, "fact a ^1000;");
        check.fault(1, "fact a 5 ^5;");
        check.fault(2, "fact a ^55;");
        check.fault(3, "fact a;never ^ofa;");
        check.right(2, "fact a;never2of(a,a);");
        check.right(2, "fact a;never 2of(a,a);");
        check.fault(1, "fact a;^nevera;");
        check.right(2, "fact off;never off;");
    }

    @Sentence(of = "Terms 1", says = "blanks (10, 32) between where one likes")
    void blanksAre10And32() {
        check.right(2, "\n \n fact\n\na 5 \n;\n count \n c\nworth 1\narose 2 needs\n!\n(\n2 \nof\n(\na\n,\n!\na\n)\n)"
                + "\n; \n");
        check.right(3, "fact a5;count c worth 1arose 2needs!(1of(a,!a)|a)&a;says c!a;");
        check.fault(1, "^fa ct a;");
        check.fault(1, "fact a 5 ^5;");
        check.right(1, "fact\na;");
        check.right(1, "fact a;");
        for (int v = 0; v < 256; v++) {
            StruckCounts x = new StruckCounts();
            boolean blank = v == 10 || v == 32;
            due("suit() with sign " + v + " ahead", Check.suit(x, (char) v + "fact a;"), blank ? 1 : NONE);
            due("its place", x.fault(1), blank ? NONE : 0);
            due("suit() with sign " + v + " inside", Check.suit(x, "fact" + (char) v + "a;"), blank ? 1 : NONE);
            due("its place", x.fault(1), blank ? NONE : v >= 'a' && v <= 'z' ? 0 : 4);
            due("suit() with sign " + v + " behind", Check.suit(x, "fact a;" + (char) v), blank ? 1 : NONE);
            due("its place", x.fault(1), blank ? NONE : 7);
            due("its fault", x.fault(0), blank ? 0 : 1);
        }
    }

    @Sentence(of = "Terms 1", says = "WORDS (a .. z, 6 at most)")
    void wordsOfSixLetters() {
        check.right(2, "fact a;fact z;");
        check.right(2, "fact azazaz;fact zzzzzz;");
        check.right(2, "fact aaaaaa;fact aaaaa;");
        check.fault(1, "fact ^aaaaaaa;");
        check.fault(1, "fact ^zzzzzzz;");
        // The signs next to a and z, and greater letters.
        check.fault(1, "fact ^`;");
        check.fault(1, "fact ^{;");
        check.fault(1, "fact ^A;");
        check.fault(1, "fact ^Z;");
        check.fault(1, "fact a^B;");
        // Told apart by each letter, and by how many they are.
        for (String word : new String[] {"aaaaaa", "mnmnmn", "zzzzzz"}) {
            for (int i = 0; i < 6; i++) {
                StruckCounts x = Check.suited("fact " + word + ";");
                for (char c = 'a'; c <= 'z'; c++) {
                    String other = word.substring(0, i) + c + word.substring(i + 1);
                    due(other + ", where there is " + word, Check.ask(x, other), other.equals(word) ? 2 : NONE);
                }
                due("the first " + i + " letters alone", Check.ask(x, word.substring(0, i)), NONE);
            }
        }
    }

    @Sentence(of = "Terms 1", says = "NUMBERS (1 to 3 digits)")
    void numbersOfThreeDigits() {
        String[] numbers = {"1", "01", "001", "9", "90", "900", "999", "019"};
        int[] limits = {1, 1, 1, 9, 90, 900, 999, 19};
        for (int i = 0; i < numbers.length; i++) {
            due("LIMIT " + numbers[i], Check.suited("limit " + numbers[i] + ";").count(9), limits[i]);
        }
        check.fault(1, "limit ^0001;");
        check.fault(1, "limit ^1000;");
        check.fault(1, "limit ^/;");
        check.fault(1, "limit ^:;");
        check.fault(1, "limit 9^/;");
        check.fault(1, "limit 9^:;");
    }

    @Sentence(of = "Terms 1", says = "the signs ! & | ( ) , ; All else is none")
    void allElseIsNone() {
        for (int v = 0; v < 256; v++) {
            StruckCounts x = Check.suited("fact a;");
            boolean known = v == 10 || v == 32 || v >= 'a' && v <= 'z' || v >= '0' && v <= '9'
                    || "!&|(),;".indexOf(v) >= 0;
            due("a, sign " + v + ", a", Check.ask(x, "a" + (char) v + "a"),
                    v == '&' || v == '|' ? 2 : NONE);
            due("its fault", x.fault(0), v == '&' || v == '|' ? 0 : v >= 'a' && v <= 'z' ? 3 : 1);
            if (!known) {
                due("its place", x.fault(1), 1);
                due("sign " + v + " alone", Check.ask(x, "a|" + (char) v + "a"), NONE);
                due("its fault", x.fault(0), 1);
                due("its place", x.fault(1), 2);
            }
        }
        due("all six", Check.ask(Check.suited("fact a;"), "!(1 of(a,a)|a&a)"), 2);
        check.fault(1, "fact a^.;");
        check.fault(1, "fact a;never a^+a;");
        check.fault(1, "fact a;never ^[a];");
    }

    @Sentence(of = "Terms 1", says = "(a longer WORD, NUMBER: whole, at its first sign)")
    void aLongerOneIsNoneAsAWhole() {
        check.fault(1, "fact ^abcdefg;");
        check.fault(1, "fact ^abcdefghijklmnopqrstuvwxyz;");
        check.fault(1, "^factfact a;");
        check.fault(1, "fact a;never ^aaaaaaa;");
        check.fault(1, "fact a;fact ^limitlimit;");
        check.fault(1, "limit ^1234;");
        check.fault(1, "limit ^1234567890123456789012;");
        check.fault(1, "fact a ^0005;");
        check.fault(1, "fact a;never ^0001 of(a);");
        check.fault(1, "^" + "a".repeat(480));
        check.fault(1, "^" + "1".repeat(480));
    }

    // ---- Terms 1: lines

    @Sentence(of = "Terms 1", says = "SUIT: { LINE ; }.")
    void aSuitIsLinesEachWithItsEnd() {
        check.right(0, "");
        check.right(0, " ");
        check.right(0, "\n");
        check.right(1, "fact a;");
        check.right(2, "fact a;fact b;");
        check.fault(1, "^;");
        check.fault(1, "fact a;^;");
        check.fault(1, "fact a^");
        check.fault(1, "fact a;fact b^");
        check.fault(1, "fact a^,fact b;");
    }

    @Sentence(of = "Terms 1", says = "fact NAME | fact NAME NUMBER (ODDS, 1 to 9; 5 without)")
    void oddsAre1To9() {
        for (int odds = 1; odds <= 9; odds++) {
            due("ODDS " + odds, Check.suited("fact a " + odds + ";").fact(0, 0), odds);
        }
        due("ODDS not told", Check.suited("fact a;").fact(0, 0), 5);
        due("ODDS not told, told of the one ahead", Check.suited("fact a 7;fact b;").fact(1, 0), 5);
        check.fault(2, "fact a ^0;");
        check.fault(2, "fact a ^10;");
        check.fault(2, "fact a ^999;");
        check.fault(1, "fact ^1;");
        check.fault(1, "fact^;");
    }

    @Sentence(of = "Terms 1",
            says = "count NAME worth NUMBER arose NUMBER { needs EXPR } (0 to 999 both; 1 to 4 needs)")
    void worthAndAroseAre0To999AndNeeds1To4() {
        StruckCounts x = check.right(3, "fact a;count c worth 0 arose 999 needs a;"
                + "count d worth 999 arose 0 needs a needs !a needs a|!a needs a;");
        due("WORTH 0", x.of(0, 0), 0);
        due("AROSE 999", x.of(0, 1), 999);
        due("one ELEMENT", x.of(0, 5), 1);
        due("WORTH 999", x.of(1, 0), 999);
        due("AROSE 0", x.of(1, 1), 0);
        due("four ELEMENTS", x.of(1, 5), 4);
        check.right(2, ONE_COUNT + " needs a;");
        check.right(2, ONE_COUNT + " needs a needs a;");
        check.fault(1, "fact a;count c worth ^1000 arose 0 needs a;");
        check.fault(1, "fact a;count c worth 0 arose ^1000 needs a;");
        check.fault(1, "fact a;count c worth 1 arose 1^;");
        check.fault(4, ONE_COUNT + " needs a needs a needs a ^needs a;");
    }

    @Sentence(of = "Terms 1", says = "plea COUNT EXPR | says COUNT FACT | says COUNT ! FACT | same COUNT COUNT")
    void pleaSaysSame() {
        StruckCounts x = check.right(7, "fact a;" + count("c", "a") + count("d", "a")
                + "plea d !a;says c a;says d !a;same c d;");
        due("a PLEA of d", x.of(1, 6), 1);
        due("none of c", x.of(0, 6), 0);
        due("c says a as so", x.of(0, 8), 1);
        due("d says a", x.of(1, 7), 1);
        due("as not so", x.of(1, 8), 0);
        due("one INJURY", x.of(1, 10), 0);
        check.fault(1, ONE_COUNT + ";says c !^!a;");
        check.fault(1, ONE_COUNT + ";says c^;");
        check.fault(1, ONE_COUNT + ";same c^;");
        check.fault(1, ONE_COUNT + ";plea c^;");
        check.fault(1, ONE_COUNT + ";plea ^!a;");
    }

    @Sentence(of = "Terms 1", says = "never EXPR")
    void neverTakesWorldsAway() {
        due("one of four", Check.suited("fact a;fact b;never a&b;").worlds(0), 3);
        due("and another", Check.suited("fact a;fact b;never a&b;never !a&!b;").worlds(0), 2);
        due("none of four", Check.suited("fact a;fact b;never a&!a;").worlds(0), 4);
        check.fault(1, "fact a;never^;");
        check.fault(1, "fact a;never a^,a;");
    }

    @Sentence(of = "Terms 1", says = "limit NUMBER (1 to 999; 300 without)")
    void limitIs1To999() {
        due("LIMIT 1", Check.suited("limit 1;").count(9), 1);
        due("LIMIT 999", Check.suited("limit 999;").count(9), 999);
        due("LIMIT not told", Check.suited("").count(9), 300);
        due("LIMIT not told, with lines", Check.suited("fact a;").count(9), 300);
        check.fault(2, "limit ^0;");
        check.fault(2, "limit ^000;");
        check.fault(1, "limit ^1000;");
        check.fault(1, "limit^;");
        StruckCounts x = Check.suited("limit 7;");
        due("LIMIT 7", x.count(9), 7);
        due("a SUIT without one", Check.suit(x, "fact a;"), 1);
        due("LIMIT of that", x.count(9), 300);
    }

    @Sentence(of = "Terms 1", says = "(In the lines above | parts kinds of lines; { } any number of times.)")
    void anyNumberOfTimes() {
        StringBuilder s = new StringBuilder(EIGHT + count("i", "a") + count("j", "a") + count("k", "a"));
        for (String k : new String[] {"i", "j", "k"}) {
            for (char f = 'a'; f <= 'h'; f++) {
                s.append("says ").append(k).append(' ').append(f).append(';');
            }
        }
        StruckCounts x = check.right(35, s.toString());
        due("the last says all", x.of(2, 7), 255);
        s = new StringBuilder("fact a;");
        for (char k = 'p'; k <= 't'; k++) {
            s.append(count(String.valueOf(k), "a"));
        }
        check.right(16, s + "same p q;same p r;same p s;same p t;same q r;same q s;same q t;same r s;same r t;"
                + "same s t;");
    }

    // ---- Terms 1: expressions and names

    @Sentence(of = "Terms 1", says = "EXPR: ALL { | ALL }. ALL: ONE { & ONE }.")
    void andBindsMoreThanOr() {
        StruckCounts x = Check.suited("fact a;fact b;fact c;");
        x.answer(0, 1);
        x.answer(1, 0);
        x.answer(2, 0);
        due("a|b&c of a alone", Check.ask(x, "a|b&c"), 1);
        due("c&b|a of a alone", Check.ask(x, "c&b|a"), 1);
        due("(a|b)&c of a alone", Check.ask(x, "(a|b)&c"), 0);
        due("c&(b|a) of a alone", Check.ask(x, "c&(b|a)"), 0);
        due("one alone", Check.ask(x, "a"), 1);
        check.questionFault(x, 1, "a|^");
        check.questionFault(x, 1, "a&^");
        check.questionFault(x, 1, "^|a");
        check.questionFault(x, 1, "^&a");
    }

    @Sentence(of = "Terms 1", says = "ONE: ! ONE | ( EXPR ) | FACT")
    void notBindsMost() {
        StruckCounts x = Check.suited("fact a;fact b;");
        x.answer(0, 0);
        x.answer(1, 0);
        due("!a&b", Check.ask(x, "!a&b"), 0);
        due("!(a&b)", Check.ask(x, "!(a&b)"), 1);
        due("!a|b", Check.ask(x, "!a|b"), 1);
        due("!(!a|b)", Check.ask(x, "!(!a|b)"), 0);
        due("!!a", Check.ask(x, "!!a"), 0);
        due("!1 of(a)", Check.ask(x, "!1 of(a)"), 1);
        check.questionFault(x, 1, "(^)");
        check.questionFault(x, 1, "!^");
        check.questionFault(x, 1, "(a^,b)");
    }

    @Sentence(of = "Terms 1", says = "NUMBER of ( EXPR { , EXPR } ) (at least so many of these, 1 to 6 of them, hold; "
            + "NUMBER 0 to 6)")
    void ofTakes0To6And1To6OfThem() {
        StruckCounts x = Check.suited("fact a;fact b;fact c;fact d;fact e;fact f;");
        for (int so = 0; so <= 6; so++) {
            if (so > 0) {
                x.answer(so - 1, 1);
            }
            x.keep(0);
            for (int f = so; f < 6; f++) {
                x.answer(f, 0);
            }
            for (int least = 0; least <= 6; least++) {
                due(least + " of six, " + so + " so", Check.ask(x, least + " of(a,b,c,d,e,f)"),
                        so >= least ? 1 : 0);
            }
            x.again(0);
        }
        x = Check.suited("fact a;fact b;fact c;fact d;fact e;fact f;");
        for (int f = 0; f < 6; f++) {
            x.answer(f, 1);
        }
        due("0 of one", Check.ask(x, "0 of(!a)"), 1);
        due("1 of one", Check.ask(x, "1 of(a)"), 1);
        due("2 of one", Check.ask(x, "2 of(a)"), 0);
        due("6 of five", Check.ask(x, "6 of(a,b,c,d,e)"), 0);
        due("5 of five", Check.ask(x, "5 of(a,b,c,d,e)"), 1);
        check.questionFault(x, 2, "^7 of(a)");
        check.questionFault(x, 2, "^999 of(a)");
        check.questionFault(x, 1, "1 of(^)");
        check.questionFault(x, 1, "1 of ^a");
        check.questionFault(x, 1, "1 of(a,^)");
        check.questionFault(x, 4, "1 of(a,b,c,d,e,f,^a)");
    }

    @Sentence(of = "Terms 1", says = "NAME: a WORD that is none of fact, never, count, worth, arose, needs, plea, "
            + "says, same, limit, of")
    void reservedWordsAreNoNames() {
        for (String word : RESERVED) {
            check.fault(1, "fact ^" + word + ";");
            check.fault(1, "fact a;count ^" + word + " worth 1 arose 1 needs a;");
            check.fault(1, "fact a;never ^" + word + ";");
            check.fault(1, ONE_COUNT + ";says ^" + word + " a;");
            check.fault(1, ONE_COUNT + ";says c ^" + word + ";");
            check.fault(1, ONE_COUNT + ";plea ^" + word + " a;");
            check.fault(1, ONE_COUNT + ";same c ^" + word + ";");
            String less = word.substring(1);
            check.right(1, "fact " + less + ";");
            check.right(1, "fact " + word.substring(0, word.length() - 1) + ";");
            check.right(1, "fact " + word + "s;");
            check.right(1, "fact x" + word + ";");
        }
    }

    @Sentence(of = "Terms 1", says = "FACTS, COUNTS are told ahead of where they are asked, numbered each from 0 on.")
    void toldAheadAndNumberedFrom0() {
        check.fault(3, "never ^a;fact a;");
        check.fault(3, "count c worth 1 arose 1 needs ^a;fact a;");
        check.fault(3, "fact a;plea ^c a;count c worth 1 arose 1 needs a;");
        check.fault(3, "fact a;says ^c a;count c worth 1 arose 1 needs a;");
        check.fault(3, ONE_COUNT + ";says c ^b;fact b;");
        check.fault(3, ONE_COUNT + ";same c ^d;count d worth 1 arose 1 needs a;");
        check.fault(3, "fact a;count c worth 1 arose 1 needs ^c;");
        StruckCounts x = Check.suited("fact a 1;count c worth 10 arose 1 needs a;fact b 2;"
                + "count d worth 20 arose 1 needs b;fact e 3;");
        for (int i = 0; i < 3; i++) {
            due("ODDS of FACT " + i, x.fact(i, 0), i + 1);
            due("WORTH of COUNT " + i, x.of(i, 0), i < 2 ? 10 * i + 10 : NONE);
        }
        due("no FACT 3", x.fact(3, 0), NONE);
    }

    // ---- Terms 1: faults

    @Sentence(of = "Terms 1", says = "FAULTS, the first along the text")
    void theFirstFaultAlongTheText() {
        check.fault(2, "fact a ^0;;");
        check.fault(4, EIGHT + "^fact a;fact 1;");
        check.fault(3, "limit 5;^limit 0;");
        check.fault(3, "fact a;fact ^a 0;");
        check.fault(5, "fact a;^never a|!a;;");
        check.fault(1, "^x;fact a 0;");
        check.fault(3, "fact a;never a|!a|^b;");
    }

    @Sentence(of = "Terms 1", says = "of one TOKEN the least")
    void ofOneTokenTheLeast() {
        String six = "fact a;never 1 of(a,a,a,a,a,a,";
        check.fault(1, six + "^);");
        check.fault(1, six + "^of);");
        check.fault(1, six + "^needs);");
        check.fault(1, six + "^aaaaaaa);");
        check.fault(1, six + "^1111);");
        check.fault(1, six + "^,a);");
        check.fault(1, six + "^");
        check.fault(2, six + "^7 of(a));");
        check.fault(3, six + "^b);");
        check.fault(4, six + "^a);");
        check.fault(4, six + "^6 of(a));");
        check.fault(4, six + "^!b);");
        check.fault(4, six + "^(b));");
        // A seventh never that would leave no WORLD: one too many comes first.
        check.fault(4, "fact a;never a;never a;never a;never a;never a;never a;^never !a;");
        // Told already, as it is no COUNT: the one and the other are 3.
        check.fault(3, "fact a;fact b;" + count("c", "a") + "says c a;says c ^c;");
    }

    @Sentence(of = "Terms 1", says = "its place is the TOKEN's first sign (the end: how many signs)")
    void thePlaceIsTheFirstSignOrHowMany() {
        check.fault(1, "^factor a;");
        check.fault(3, "fact abcdef;fact   ^abcdef  ;");
        check.fault(2, "limit \n ^000;");
        check.fault(1, "fact^");
        check.fault(1, "fact    ^");
        check.fault(1, "fact a\n\n^");
        check.fault(1, " ".repeat(476) + "fact^");
        check.fault(1, "fact" + " ".repeat(476) + "^");
        StruckCounts x = new StruckCounts();
        check.questionFault(x, 1, "^");
        check.questionFault(x, 1, " ".repeat(480) + "^");
    }

    @Sentence(of = "Terms 1", says = "1 it is none, or can't stand there.")
    void fault1() {
        check.fault(1, "^A");
        check.fault(1, "fact a^#;");
        check.fault(1, "^worth;");
        check.fault(1, "^(fact a);");
        check.fault(1, "fact a^!;");
        check.fault(1, "fact a ^b;");
        check.fault(1, "fact a;count c ^arose 1 worth 1 needs a;");
        check.fault(1, "fact a;count c worth ^! arose 1 needs a;");
        check.fault(1, "fact a;count c worth 1 arose 1 needs a ^plea;");
        check.fault(1, "fact a;never a ^5;");
        check.fault(1, "fact a;never 5 ^a;");
        check.fault(1, "fact a;never 5^;");
        check.fault(1, "fact a;never 1 of(a^;a);");
        check.fault(1, "limit 5 ^5;");
        check.fault(1, "fact a;never 1 of^;");
        check.fault(1, "fact a;never 1 of ^&a;");
        check.fault(1, "fact a;never (1 of^);");
        check.fault(1, "fact a;never !1 of^|a;");
        // A line begins where another one has not ended.
        check.fault(1, "fact ^limit 5;");
        check.fault(1, "fact a ^limit 5;");
        check.fault(1, "fact a 5 ^limit 5;");
        check.fault(1, "fact a;never ^limit 5;");
        check.fault(1, "fact a;never a ^limit 5;");
        check.fault(1, "fact a;count ^limit 5;");
        check.fault(1, "fact a;count c ^limit 5;");
        check.fault(1, "fact a;count c worth ^limit 5;");
        check.fault(1, "fact a;count c worth 1 ^limit 5;");
        check.fault(1, "fact a;count c worth 1 arose ^limit 5;");
        check.fault(1, "fact a;count c worth 1 arose 1 ^limit 5;");
        check.fault(1, "fact a;count c worth 1 arose 1 needs ^limit 5;");
        for (String line : new String[] {"plea", "plea c", "plea c a", "says", "says c", "says c !", "says c a",
            "same", "same c", "same c d"}) {
            check.fault(1, "fact a;" + count("c", "a") + count("d", "a") + line + " ^limit 5;");
        }
        check.fault(1, "limit ^fact a;");
        check.fault(1, "limit 5 ^fact a;");
    }

    @Sentence(of = "Terms 1", says = "2 a NUMBER that is not as told.")
    void fault2() {
        check.fault(2, "fact a ^0;");
        check.fault(2, "fact a ^10;");
        check.fault(2, "limit ^0;");
        check.fault(2, "fact a;never ^7 of(a);");
        check.fault(2, "fact a;never ^7 ;");
        check.fault(2, "fact a;never a&!^8 of(a);");
        check.right(2, "fact a 9;limit 999;");
        check.right(2, "fact a 1;limit 1;");
        check.right(2, "fact a;never 6 of(a);");
        check.right(2, "fact a;never !(0 of(a));");
    }

    @Sentence(of = "Terms 1", says = "3 a new NAME that a FACT or COUNT has already")
    void fault3NewName() {
        check.fault(3, "fact a;fact ^a;");
        check.fault(3, "fact a;fact b;fact ^a 5;");
        check.fault(3, "fact a;count ^a worth 1 arose 1 needs a;");
        check.fault(3, ONE_COUNT + ";fact ^c;");
        check.fault(3, ONE_COUNT + ";count ^c worth 1 arose 1 needs a;");
        check.fault(3, EIGHT + "count ^h worth 1 arose 1 needs a;");
        String five = "fact a;" + count("p", "a") + count("q", "a") + count("r", "a") + count("s", "a");
        check.fault(3, five + "count ^s worth");
        check.fault(3, five + count("t", "a") + "fact ^t;");
    }

    @Sentence(of = "Terms 1", says = "a NAME that is no FACT, no COUNT, as asked")
    void fault3NoSuchName() {
        check.fault(3, "fact a;never ^b;");
        check.fault(3, ONE_COUNT + ";never ^c;");
        check.fault(3, ONE_COUNT + ";plea ^d a;");
        check.fault(3, ONE_COUNT + ";plea ^a a;");
        check.fault(3, ONE_COUNT + ";plea c ^c;");
        check.fault(3, ONE_COUNT + ";says ^a a;");
        check.fault(3, ONE_COUNT + ";says c ^c;");
        check.fault(3, ONE_COUNT + ";says c !^c;");
        check.fault(3, ONE_COUNT + ";same ^a c;");
        check.fault(3, ONE_COUNT + ";same c ^a;");
        // A name of a SUIT that is gone.
        StruckCounts x = Check.suited(ONE_COUNT + ";");
        due("the next SUIT", Check.suit(x, "fact b;says c b;"), NONE);
        due("its fault", x.fault(0), 3);
        due("its place", x.fault(1), 12);
    }

    @Sentence(of = "Terms 1", says = "a FACT that this COUNT says already")
    void fault3SaidAlready() {
        String two = "fact a;fact b;" + count("c", "a") + count("d", "a") + "says c a;says c !b;";
        check.fault(3, two + "says c ^a;");
        check.fault(3, two + "says c !^a;");
        check.fault(3, two + "says c ^b;");
        check.fault(3, two + "says c !^b;");
        check.right(8, two + "says d a;says d !b;");
    }

    @Sentence(of = "Terms 1", says = "of same the second COUNT, if it is the first one, or if the two were told so "
            + "already, either way round")
    void fault3Same() {
        String three = "fact a;" + count("c", "a") + count("d", "a") + count("e", "a");
        check.fault(3, three + "same c ^c;");
        check.fault(3, three + "same e ^e;");
        check.fault(3, three + "same c d;same c ^d;");
        check.fault(3, three + "same c d;same d ^c;");
        check.fault(3, three + "same e c;same d c;same c ^e;");
        // Through others is not told so.
        check.right(7, three + "same c d;same d e;same c e;");
        check.fault(3, three + "same c d;same d e;same c e;same e ^c;");
    }

    @Sentence(of = "Terms 1", says = "limit told already (at that WORD)")
    void fault3Limit() {
        check.fault(3, "limit 5;^limit 5;");
        check.fault(3, "limit 300;^limit 0;");
        check.fault(3, "limit 1;fact a;  ^limit");
        check.right(1, "limit 5;");
    }

    @Sentence(of = "Terms 1", says = "4 one too many: the WORD fact of a ninth FACT")
    void fault4NinthFact() {
        check.right(8, EIGHT);
        check.fault(4, EIGHT + "^fact i;");
        check.fault(4, EIGHT + "^fact a;");
        check.fault(4, EIGHT + "^fact");
    }

    @Sentence(of = "Terms 1", says = "count of a sixth COUNT")
    void fault4SixthCount() {
        String five = "fact a;" + count("p", "a") + count("q", "a") + count("r", "a") + count("s", "a")
                + count("t", "a");
        check.right(6, five);
        check.fault(4, five + "^count u worth 1 arose 1 needs a;");
        check.fault(4, five + "^count p");
        check.fault(4, five + "^count");
    }

    @Sentence(of = "Terms 1", says = "never of a seventh")
    void fault4SeventhNever() {
        String six = "fact a;never a;never a;never a;never a;never a;never a;";
        check.right(7, six);
        check.fault(4, six + "^never a;");
        check.fault(4, six + "^never");
    }

    @Sentence(of = "Terms 1", says = "plea of a seventh")
    void fault4SeventhPlea() {
        String six = "fact a;" + count("c", "a") + count("d", "a")
                + "plea c a;plea d a;plea c a;plea d a;plea c a;plea d a;";
        check.right(9, six);
        check.fault(4, six + "^plea c a;");
        check.fault(4, six + "^plea d a;");
        check.fault(4, six + "^plea");
        check.right(8, "fact a;" + count("c", "a") + "plea c a;plea c a;plea c a;plea c a;plea c a;plea c a;");
    }

    @Sentence(of = "Terms 1", says = "needs of a COUNT's fifth")
    void fault4FifthNeeds() {
        String four = ONE_COUNT + " needs a needs a needs a";
        check.right(2, four + ";");
        check.fault(4, four + " ^needs a;");
        check.fault(4, four + " ^needs");
        // Of each COUNT by itself.
        check.right(3, four + ";count d worth 1 arose 1 needs a needs a needs a needs a;");
    }

    @Sentence(of = "Terms 1", says = "the first TOKEN of an of's seventh EXPR")
    void fault4SeventhOf() {
        check.right(2, "fact a;never 1 of(a,a,a,a,a,a);");
        check.fault(4, "fact a;never 1 of(a,a,a,a,a,a,^a);");
        check.fault(4, "fact a;never 1 of(a,a,a,a,a,a,^!!!!!!!a);");
        check.fault(4, "fact a;never 1 of(a,a,a,a,a,a,^0 of");
        check.fault(4, "fact a;never 1 of(a,1 of(a,a,a,a,a,a,^a));");
        // Of each of by itself, and of EXPRS, not of FACTS.
        check.right(2, "fact a;never 1 of(1 of(a,a,a,a),1 of(a,a,a,a));");
        check.right(2, "fact a;never 1 of(a&a,a|a,a&a&a,a,a,a|a);");
    }

    @Sentence(of = "Terms 1", says = "a ! or ( that is open within five others (a !, till its ONE ends)")
    void fault4SixthOpen() {
        check.right(2, "fact a;never !!!!!a;");
        check.fault(4, "fact a;never !!!!!^!a;");
        check.fault(4, "fact a;never !!!!!^(a);");
        check.right(2, "fact a;never (((((a)))));");
        check.fault(4, "fact a;never (((((^(a))))));");
        check.fault(4, "fact a;never (((((^!a)))));");
        check.right(2, "fact a;never !(!(!a));");
        check.fault(4, "fact a;never !(!(!^(a)));");
        // The ( of an of is one, too; the of is none.
        check.right(2, "fact a;never ((((1 of(a)))));");
        check.fault(4, "fact a;never (((((1 of^(a))))));");
        check.fault(4, "fact a;never 1 of(1 of(1 of(1 of(1 of(^!a)))));");
        // One that has ended is not open: a ! with its ONE, a ( with its ).
        check.right(2, "fact a;never !!!!!a|!!!!!a&!!!!!a;");
        check.right(2, "fact a;never (((((a)))))|(((((a)))));");
        check.right(2, "fact a;never ((((!a|!a))));");
        check.right(2, "fact a;never !(!(a))&!(!(!a|!a));");
        check.right(2, "fact a;never 1 of(!!!!a,!!!!a,(((a))));");
        check.fault(4, "fact a;never 1 of(!!!!a,!!!!^!a);");
        // In each kind of line, and each EXPR of its own.
        check.right(3, ONE_COUNT + "&!!!!!a needs !!!!!a needs (((((a)))));plea c !!!!!a;");
        check.fault(4, "fact a;count c worth 1 arose 1 needs !!!!!^!a;");
        check.fault(4, ONE_COUNT + " needs (((((^(a))))));");
        check.fault(4, ONE_COUNT + ";plea c !!!!!^(a);");
    }

    @Sentence(of = "Terms 1", says = "5 no WORLD is left of the FACTS told so far")
    void fault5() {
        check.fault(5, "fact a;^never a|!a;");
        check.fault(5, "fact a;never a;^never !a;");
        check.fault(5, "fact a;fact b;never a;never b;^never !a&!b;");
        check.fault(5, "fact a;never !a;^never a;fact b;");
        check.right(3, "fact a;never a;never a;");
        check.right(3, "fact a;fact b;never !a|b;");
        // The last WORLD that there can be left: of all eight so, of none.
        check.right(9, EIGHT + "never !(a&b&c&d&e&f)|!(g&h);");
        check.right(9, EIGHT + "never a|b|c|d|e|f|g|h;");
        check.fault(5, EIGHT + "never !(a&b&c&d&e&f)|!(g&h);^never a&h;");
        check.fault(5, EIGHT + "never a|b|c|d|e|f|g|h;^never !h;");
    }

    @Sentence(of = "Terms 1", says = "(at the WORD never; asked when its LINE is whole, with its ;)")
    void fault5IsAskedOfAWholeLine() {
        check.fault(1, "fact a;never a|!a^");
        check.fault(1, "fact a;never a|!a ^a;");
        check.fault(1, "fact a;never a|!a^,");
        check.fault(3, "fact a;never a|!a|^b;");
        check.fault(4, "fact a;never a|!a|!!!!!^!a;");
        check.fault(5, "fact a;  ^never \n a|!a \n ;");
        check.fault(5, "fact a;^never a|!a;A");
    }

    @Sentence(of = "Terms 1", says = "A SUIT without a FAULT is the SUIT from then on: DAY 0, all COUNTS FILED on it, "
            + "no FACT answered, not CLOSED, nothing kept, to be undone, ASKED.")
    void aSuitBeginsAnew() {
        String suit = "fact a;fact b;" + count("c", "a") + "says c a;";
        StruckCounts x = Check.suited(suit);
        String fresh = picture(x);
        x.keep(0);
        x.days(5);
        x.add(0, 1, 1);
        x.say(1, 1, 1);
        x.answer(1, 2);
        x.strike(0);
        x.close();
        x.find(0, true);
        x.keep(1);
        Check.ask(x, "a");
        due("suit()", Check.suit(x, suit), 4);
        due("all as of a new object with that SUIT", picture(x).equals(fresh), true);
        due("DAY", x.count(4), 0);
        due("FILED", x.of(0, 2), 0);
        due("how a FACT is", x.fact(1, 1), 0);
        due("CLOSED", x.count(5), 0);
        due("kept in 0", x.again(0), false);
        due("kept in 1", x.again(1), false);
        due("acts that can be undone", x.count(7), 0);
        due("undo()", x.undo(), NONE);
        due("ASKED, 0", x.asked(0), NONE);
        due("ASKED, 1", x.asked(1), NONE);
        // Nothing is left of the SUITS ahead, however often there is another.
        x = new StruckCounts();
        String most = EIGHT + count("p", "a") + count("q", "a") + count("r", "a") + count("s", "b")
                + count("t", "a") + "never a&b;never b;never b;never b;never b;never b;plea p b;plea q b;plea q b;"
                + "plea r b;plea s b;plea t b;same p t;says t c;";
        for (int time = 0; time < 4; time++) {
            due("suit(), time " + time, Check.suit(x, time == 3 ? suit : most), time == 3 ? 4 : 27);
            due("fault(0)", x.fault(0), 0);
            if (time < 3) {
                x.add(4, 1, 1);
                due("COUNTS", x.count(2), 6);
                due("the one more says nothing", x.of(5, 7), 0);
                due("nor as so", x.of(5, 8), 0);
                x.say(5, 3, 1);
                x.say(5, 4, 1);
                due("not OPEN", x.answer(7, 1), 1);
                due("not OPEN", x.answer(6, 2), 2);
                due("not OPEN", x.answer(5, 3), 3);
                due("the DAY", x.days(6), 6);
                x.strike(0);
                x.close();
                x.find(0, true);
            }
        }
        due("as of a new object with that SUIT", picture(x).equals(fresh), true);
        due("a COUNT more", x.add(0, 1, 1), 1);
        due("says nothing", x.of(1, 7), 0);
        due("nor as so", x.of(1, 8), 0);
        // Even the empty one.
        x.days(1);
        x.keep(0);
        due("suit() of an empty TEXT", x.suit(), 0);
        due("DAY", x.count(4), 0);
        due("kept", x.again(0), false);
        due("undo()", x.undo(), NONE);
    }

    // ---- promises 1 to 5

    @Sentence(of = "Promise 1", says = "No LINES, FACTS, COUNTS (one WORLD, of no FACTS); LIMIT 300; DAY 0; "
            + "an empty TEXT.")
    void promise1ANewObject() {
        StruckCounts x = new StruckCounts();
        for (int what = 0; what < 9; what++) {
            due("count(" + what + ")", x.count(what), 0);
        }
        due("LIMIT", x.count(9), 300);
        due("worlds(0)", x.worlds(0), 1);
        due("worlds(1)", x.worlds(1), 1);
        due("fact(0, 0)", x.fact(0, 0), NONE);
        due("of(0, 0)", x.of(0, 0), NONE);
        due("outcomes()", x.outcomes(), 1);
        for (int what = 0; what < 3; what++) {
            due("award(" + what + ")", x.award(what), 0);
            due("outcome(0, " + what + ")", x.outcome(0, what), what == 1 ? 1 : 0);
        }
        due("meant(0)", x.meant(0), 0);
        due("meant(1)", x.meant(1), 1);
        due("elect(0)", x.elect(0), 0);
        due("elect(1)", x.elect(1), 0);
        due("together(0)", x.together(0), 1);
        due("together(1)", x.together(1), NONE);
        due("end(1)", x.end(1), false);
        due("asked(0)", x.asked(0), NONE);
        due("again(0)", x.again(0), false);
        due("undo()", x.undo(), NONE);
        due("close()", x.close(), 0);
    }

    @Sentence(of = "Promise 2", says = "Four signs come behind THE TEXT, of v the highest byte first: how many it has")
    void promise2TheHighestByteFirst() {
        StruckCounts x = new StruckCounts();
        due("sign()", x.sign('f' << 24 | 'a' << 16 | 'c' << 8 | 't'), 4);
        due("sign()", x.sign(' ' << 24 | 'a' << 16 | ';' << 8 | 0xFF), 8);
        due("suit()", x.suit(), NONE);
        due("the place of the lowest byte", x.fault(1), 7);
        for (int v : new int[] {0xFF202020, 0x80202020, MIN, -1, 0, MAX}) {
            due("sign(" + v + ")", x.sign(v), 4);
            due("suit()", x.suit(), NONE);
            due("the place of the highest byte", x.fault(1), 0);
        }
        due("sign()", x.sign(0x20FF2020), 4);
        due("suit()", x.suit(), NONE);
        due("the place of the second", x.fault(1), 1);
        due("sign()", x.sign(0x2020FF20), 4);
        due("suit()", x.suit(), NONE);
        due("the place of the third", x.fault(1), 2);
    }

    @Sentence(of = "Promise 2", says = "NONE, and none come, if it would have more than 480")
    void promise2NoneBeyond480() {
        StruckCounts x = new StruckCounts();
        for (int i = 1; i <= 120; i++) {
            due("sign(), " + i, x.sign(0x20202020), 4 * i);
        }
        for (int i = 480; i > 476; i--) {
            due("end(" + i + ")", x.end(i), true);
            due("sign() behind " + i, x.sign(0x41414141), NONE);
            due("how many", x.count(8), i);
            due("none came", x.end(i + 1), false);
        }
        due("end(476)", x.end(476), true);
        due("sign() behind 476", x.sign(0x20202020), 480);
        due("none of the others came", x.suit(), 0);
    }

    @Sentence(of = "Promise 3", says = "THE TEXT has its first n signs alone: true")
    void promise3TheFirstSigns() {
        StruckCounts x = new StruckCounts();
        due("end(0) of none", x.end(0), true);
        Check.text(x, "fact a;A");
        due("end(8) of 8", x.end(8), true);
        due("8 still", x.count(8), 8);
        due("end(7)", x.end(7), true);
        due("7", x.count(8), 7);
        due("suit()", x.suit(), 1);
        Check.text(x, "fact b;");
        due("end(0)", x.end(0), true);
        due("0", x.count(8), 0);
        due("suit() of none", x.suit(), 0);
        due("no FACTS", x.count(1), 0);
    }

    @Sentence(of = "Promise 3", says = "false, if it has not so many, or n is below 0")
    void promise3NotSoMany() {
        StruckCounts x = new StruckCounts();
        due("end(1) of none", x.end(1), false);
        due("end(-1) of none", x.end(-1), false);
        Check.text(x, "fact a;");
        for (int n : beyond(8)) {
            due("end(" + n + ") of 7", x.end(n), false);
            due("7 still", x.count(8), 7);
        }
        due("end(480) of 7", x.end(480), false);
        due("all as it was", x.suit(), 1);
        due("what was there is no more", x.end(1), false);
    }

    @Sentence(of = "Promise 4", says = "THE TEXT (empty then) is the SUIT: how many LINES")
    void promise4HowManyLines() {
        StruckCounts x = Check.suited("");
        due("count(0)", x.count(0), 0);
        due("one", Check.suit(x, "limit 5;"), 1);
        due("count(0)", x.count(0), 1);
        due("empty then", x.count(8), 0);
        due("48", Check.suit(x, EIGHT + count("p", "a") + count("q", "a") + count("r", "a")
                + "says p a;says p b;says p c;says p d;says p e;says p f;says p g;says p h;"
                + "says q a;says q b;says q c;says q d;says q e;says q f;says q g;says q h;"
                + "says r a;says r b;says r c;says r d;says r e;says r f;says r g;says r h;"
                + "limit 9;same p q;same q r;"), 38);
        due("count(0)", x.count(0), 38);
        due("empty then", x.count(8), 0);
        due("nothing", x.suit(), 0);
        due("count(0)", x.count(0), 0);
    }

    @Sentence(of = "Promise 4", says = "NONE with a FAULT: the SUIT and all that became of it stay")
    void promise4ASuitWithAFaultChangesNothing() {
        String[] faulty = {"A", "fact a 0;", "fact z;fact y;fact x;fact z;", EIGHT + "fact i;",
            "fact a;never a|!a;", "fact b 2;fact a 3;" + count("c", "b") + "plea c a;says c b;limit 3;x",
            "fact q;never !q;never q;", "limit 5;limit 5;", "fact a;" + count("c", "a") + count("d", "a")
                + "same c d;same d c;"};
        for (String text : faulty) {
            StruckCounts x = busy();
            String ahead = picture(x) + x.element(0, 1, 2) + x.bar(0, 0, 1) + x.worlds(0) + x.award(1);
            for (int time = 0; time < 2; time++) {
                due("suit() of " + text, Check.suit(x, text), NONE);
                due("a FAULT", x.fault(0) > 0, true);
                due("all stays", (picture(x) + x.element(0, 1, 2) + x.bar(0, 0, 1) + x.worlds(0) + x.award(1))
                        .equals(ahead), true);
            }
            due("LINES", x.count(0), 9);
            due("ASKED", x.asked(1) > 0, true);
            due("undo()", x.undo(), 2);
            due("again()", x.again(0), true);
            due("names stay", Check.ask(x, "a&b"), 0);
        }
    }

    /** A SUIT with acts, something kept and something ASKED. */
    private static StruckCounts busy() {
        StruckCounts x = Check.suited("fact a 7;fact b;never a&b;count c worth 9 arose 5 needs a needs !b;"
                + "count d worth 8 arose 4 needs b;plea c b;same c d;says c a;limit 77;");
        x.days(5);
        x.keep(0);
        x.answer(0, 1);
        x.add(1, 3, 3);
        Check.ask(x, "a|b");
        Check.ask(x, "");
        return x;
    }

    @Sentence(of = "Promise 5", says = "Of the latest suit() or ask()")
    void promise5TheLatest() {
        StruckCounts x = new StruckCounts();
        Check.suit(x, "fact a 0;");
        due("of suit()", 10 * x.fault(0) + x.fault(1), 27);
        Check.ask(x, "!b");
        due("of ask()", 10 * x.fault(0) + x.fault(1), 31);
        Check.suit(x, "fact a;");
        due("of suit(), none", 10 * x.fault(0) + x.fault(1), -1);
        Check.ask(x, "a a");
        due("of ask()", 10 * x.fault(0) + x.fault(1), 12);
        Check.ask(x, "a");
        due("of ask(), none", 10 * x.fault(0) + x.fault(1), -1);
        Check.suit(x, "   A");
        due("of suit()", 10 * x.fault(0) + x.fault(1), 13);
        x.sign(0);
        x.end(0);
        x.days(1);
        due("whatever else is called", 10 * x.fault(0) + x.fault(1), 13);
    }

    @Sentence(of = "Promise 5", says = "what 0: its FAULT (0 without one, and ahead of any)")
    void promise5NoFault() {
        StruckCounts x = new StruckCounts();
        due("ahead of any", x.fault(0), 0);
        Check.suit(x, "fact a;");
        due("without one, of suit()", x.fault(0), 0);
        Check.ask(x, "a");
        due("without one, of ask()", x.fault(0), 0);
        Check.suit(x, "x");
        due("with one", x.fault(0), 1);
    }

    @Sentence(of = "Promise 5", says = "1: its place (NONE without)")
    void promise5NoPlace() {
        StruckCounts x = new StruckCounts();
        due("ahead of any", x.fault(1), NONE);
        Check.suit(x, "x");
        due("place 0", x.fault(1), 0);
        Check.suit(x, "fact a;");
        due("without one, of suit()", x.fault(1), NONE);
        Check.ask(x, "");
        due("place 0 of an empty one", x.fault(1), 0);
        Check.ask(x, "a");
        due("without one, of ask()", x.fault(1), NONE);
        Check.suit(x, " ".repeat(479) + "x");
        due("place 479", x.fault(1), 479);
        Check.ask(x, " ".repeat(480));
        due("place 480", x.fault(1), 480);
    }

    @Sentence(of = "Promise 5", says = "NONE for another what.")
    void promise5AnotherWhat() {
        StruckCounts x = new StruckCounts();
        for (int time = 0; time < 3; time++) {
            for (int what : beyond(2)) {
                due("fault(" + what + ")", x.fault(what), NONE);
            }
            Check.suit(x, time == 0 ? "   x" : "fact a;");
        }
    }
}
