/** A test for each sentence that names a boundary: Terms 2 (WORLDS and COUNTS), promises 6 to 9, 21 to 25. */
final class BoundsOfPaperTest extends Bounds {
    private static final String FOUR = "fact a;fact b;fact c;fact d;";

    public static void main(String[] args) throws Exception {
        new BoundsOfPaperTest().runAll();
    }

    /** One COUNT, 0, that needs this, behind four FACTS of which a and d are never both so. */
    private static StruckCounts one(String needs, String more) {
        return Check.suited(FOUR + "never a&d;count k worth 1 arose 300 needs " + needs + ";" + more);
    }

    private void failing(String what, StruckCounts x, int want) {
        due("FAILING: " + what, x.of(0, 9), want);
    }

    // ---- Terms 2: worlds

    @Sentence(of = "Terms 2", says = "A WORLD: a set of FACTS that are so (bits, FACT 0 the lowest; the others are not "
            + "so) in which no NEVER holds.")
    void aWorldIsASetOfFactsWithoutANever() {
        StruckCounts x = Check.suited("fact a;fact b;" + count("k", "b&!a") + "says k b;says k !a;");
        due("b alone is WORLD 2", x.award(2), 2);
        x = Check.suited("fact a;fact b;" + count("k", "a&!b") + "says k a;says k !b;");
        due("a alone is WORLD 1", x.award(2), 1);
        x = Check.suited(EIGHT + count("k", "h") + "says k h;");
        due("h alone is WORLD 128", x.award(2), 128);
        due("without NEVERS", x.worlds(0), 256);
        due("of no FACTS", new StruckCounts().worlds(0), 1);
        due("a NEVER", Check.suited("fact a;fact b;never a&b;").worlds(0), 3);
        due("a NEVER ahead of a FACT", Check.suited("fact a;never a;fact b;").worlds(0), 2);
        due("six NEVERS", Check.suited("fact a;fact b;fact c;never a&b&c;never a&b&!c;never a&!b&c;never !a&b&c;"
                + "never a&!b&!c;never !a&b&!c;").worlds(0), 2);
        due("one WORLD alone", Check.suited(EIGHT + "never a|b|c|d|e|f|g|h;").worlds(0), 1);
    }

    @Sentence(of = "Terms 2", says = "ALLEGED of a COUNT: the LITERALS that it says.")
    void allegedIsWhatTheCountSays() {
        StruckCounts x = Check.suited(FOUR + count("k", "a needs !b needs c") + count("l", "a")
                + "says k a;says k !b;says l !a;");
        due("a as so", x.element(0, 0, 0), 1);
        due("b as not so", x.element(0, 1, 0), 1);
        due("c not said", x.element(0, 2, 0), 2);
        due("of another COUNT", x.element(1, 0, 0), 0);
        x.answer(2, 1);
        due("KNOWN is not ALLEGED", x.element(0, 2, 0), 2);
        due("nor SURE by it", x.element(0, 2, 1), 0);
    }

    @Sentence(of = "Terms 2", says = "KNOWN: the LITERALS that are ADMITTED or FOUND; at least one WORLD AGREES with "
            + "them always.")
    void aWorldAlwaysAgreesWithKnown() {
        // One WORLD alone of three FACTS: a, and neither b nor c.
        String suit = "fact a;fact b;fact c;never !a;never b;never c;" + count("k", "b") + "says k b;says k c;"
                + "says k !a;";
        for (int f = 0; f < 3; f++) {
            StruckCounts x = Check.suited(suit);
            due("ADMITTED against it, " + f, x.answer(f, f == 0 ? 0 : 1), -4);
            due("worlds(1)", x.worlds(1), 1);
            due("KNOWN", x.count(6), 0);
            due("none by silence", x.close(), 0);
            due("worlds(1)", x.worlds(1), 1);
            due("FOUND against it, " + f, x.find(f, f != 0), -4);
            due("worlds(1)", x.worlds(1), 1);
            due("FOUND as it is, " + f, x.find(f, f == 0), 2);
            due("KNOWN", x.count(6), 1);
            due("worlds(1)", x.worlds(1), 1);
        }
        StruckCounts x = Check.suited("fact a;fact b;fact c;never a&b&c;" + count("k", "a")
                + "says k a;says k b;says k c;");
        due("two by silence", x.close(), 2);
        due("c is NOT KNOWN", x.fact(2, 1), 3);
        due("one WORLD", x.worlds(1), 1);
        due("c can't be FOUND so", x.find(2, true), -4);
        due("but not so", x.find(2, false), 0);
        due("one WORLD", x.worlds(1), 1);
    }

    @Sentence(of = "Terms 2", says = "KNOWN: the LITERALS that are ADMITTED or FOUND")
    void knownIsAdmittedOrFound() {
        StruckCounts x = Check.suited(FOUR);
        x.answer(0, 1);
        x.answer(1, 2);
        x.answer(2, 3);
        due("ADMITTED alone", x.count(6), 1);
        due("worlds(1)", x.worlds(1), 8);
        x.close();
        x.find(1, false);
        due("and FOUND", x.count(6), 2);
        due("worlds(1)", x.worlds(1), 4);
        x.find(2, true);
        x.find(3, true);
        due("all", x.count(6), 4);
        due("worlds(1)", x.worlds(1), 1);
    }

    @Sentence(of = "Terms 2", says = "SURE by LITERALS is what holds in each WORLD that AGREES with them (whatever it "
            + "is, if no WORLD does).")
    void sureWhateverItIsWithoutAWorld() {
        StruckCounts x = one("a needs !a needs b needs a&!a", "plea k c;plea k d&!d;says k a;");
        due("holds in each", x.element(0, 0, 1), 1);
        due("in none", x.element(0, 1, 1), 0);
        due("in some", x.element(0, 2, 1), 0);
        x.say(0, 3, 1);
        for (int i = 0; i < 4; i++) {
            due("no WORLD, ELEMENT " + i, x.element(0, i, 1), 1);
        }
        due("no WORLD, PLEA 0", x.bar(0, 0, 1), 1);
        due("no WORLD, PLEA 1", x.bar(0, 1, 1), 1);
        x = one("!d needs a|!a", "says k a;");
        due("by a NEVER", x.element(0, 0, 1), 1);
        due("without a word", x.element(0, 1, 1), 1);
    }

    // ---- Terms 2: failing

    @Sentence(of = "Terms 2", says = "A COUNT's FAILING, the least number")
    void failingIsTheLeastNumber() {
        String late = "limit 299;";
        StruckCounts x = one("a", "says k a;says k d;plea k a;" + late);
        x.answer(0, 0);
        failing("2 ahead of 4, 5, 6", x, 2);
        x.strike(0);
        failing("1 ahead of them", x, 1);
        x = one("a", "says k b;plea k b;" + late);
        x.answer(0, 0);
        failing("3 ahead of 4, 5, 6", x, 3);
        x = one("a", "says k a;plea k a;" + late);
        x.answer(0, 0);
        failing("4 ahead of 5, 6", x, 4);
        failing("5 ahead of 6", one("a", "says k a;plea k a;" + late), 5);
        failing("6", one("a", "says k a;" + late), 6);
    }

    @Sentence(of = "Terms 2", says = "1 it is STRUCK")
    void failing1() {
        StruckCounts x = one("a", "says k a;");
        failing("not STRUCK", x, 0);
        x.strike(0);
        failing("STRUCK", x, 1);
        x.undo();
        failing("not STRUCK after all", x, 0);
    }

    @Sentence(of = "Terms 2", says = "2 no WORLD AGREES with its ALLEGED")
    void failing2() {
        failing("a and d", one("a", "says k a;says k d;"), 2);
        failing("a and not d", one("a", "says k a;says k !d;"), 0);
        // KNOWN is asked of 4, not of 2.
        StruckCounts x = one("a", "says k a;");
        x.answer(3, 1);
        failing("KNOWN at odds with ALLEGED", x, 4);
    }

    @Sentence(of = "Terms 2", says = "3 an ELEMENT (what it needs) is not SURE by its ALLEGED")
    void failing3() {
        String all = "says k a;says k b;says k c;says k !d;";
        failing("four of four", one("a needs b needs c needs !d", all), 0);
        failing("not the first", one("d needs b needs c needs a", all), 3);
        failing("not the second", one("b needs d needs c needs a", all), 3);
        failing("not the third", one("b needs c needs d needs a", all), 3);
        failing("not the fourth", one("b needs c needs a needs d", all), 3);
        failing("open", one("a", ""), 3);
        failing("said not so", one("a", "says k !a;"), 3);
        failing("SURE without a word", one("a|!a", ""), 0);
        failing("SURE by a NEVER", one("!d", "says k a;"), 0);
        StruckCounts x = one("a", "");
        x.answer(0, 1);
        failing("KNOWN is not ALLEGED", x, 3);
    }

    @Sentence(of = "Terms 2", says = "4 an ELEMENT holds in no WORLD that AGREES with KNOWN")
    void failing4() {
        for (int f = 0; f < 3; f++) {
            StruckCounts x = one("a needs b needs c", "says k a;says k b;says k c;");
            x.answer(f, 0);
            failing("ELEMENT " + f, x, 4);
            x.withdraw(f);
            failing("ELEMENT " + f + " open again", x, 0);
        }
        StruckCounts x = one("a needs b", "says k a;says k b;");
        x.answer(3, 1);
        failing("by a NEVER", x, 4);
        // Each by itself holds in a WORLD, both together in none.
        x = Check.suited(FOUR + count("k", "a|b needs !a|!b needs a|!b") + "says k a;says k !b;");
        x.answer(1, 1);
        failing("each in some WORLD", x, 0);
        x = one("a", "says k a;");
        x.answer(0, 2);
        failing("DENIED", x, 0);
        x.answer(0, 3);
        failing("NOT KNOWN", x, 0);
    }

    @Sentence(of = "Terms 2", says = "5 a PLEA of it is SURE by its ALLEGED, or by KNOWN")
    void failing5() {
        failing("not ALLEGED", one("a", "says k a;plea k b;"), 0);
        failing("ALLEGED", one("a", "says k a;says k b;plea k b;"), 5);
        failing("the last of six", one("a", "says k a;plea k b;plea k b;plea k b;plea k c;plea k c;plea k a;"), 5);
        failing("the first of six", one("a", "says k a;plea k a;plea k b;plea k b;plea k c;plea k c;plea k c;"), 5);
        failing("ALLEGED, by a NEVER", one("a", "says k a;plea k !d;"), 5);
        StruckCounts x = one("a", "says k a;plea k b;");
        x.answer(1, 1);
        failing("KNOWN", x, 5);
        x.withdraw(1);
        x.answer(1, 2);
        failing("DENIED", x, 0);
        x.close();
        x.find(1, false);
        failing("FOUND not so", x, 0);
        x.undo();
        x.find(1, true);
        failing("FOUND", x, 5);
        // Half of it ALLEGED, half of it KNOWN: SURE by neither.
        x = one("a", "says k a;says k b;plea k b&c;");
        x.answer(2, 1);
        failing("by both together", x, 0);
        x = Check.suited(FOUR + count("k", "a") + count("l", "a") + "says k a;says l a;plea l a;");
        failing("a PLEA of another COUNT", x, 0);
        due("of that one", x.of(1, 9), 5);
    }

    @Sentence(of = "Terms 2", says = "6 it is LATE: its AGE is above the LIMIT.")
    void failing6() {
        failing("300 of 300", one("a", "says k a;"), 0);
        failing("300 of 299", one("a", "says k a;limit 299;"), 6);
        failing("300 of 301", one("a", "says k a;limit 301;"), 0);
        for (int arose = 0; arose <= 999; arose += 333) {
            StruckCounts x = Check.suited("fact a;count k worth 1 arose " + arose + " needs a;says k a;limit 666;");
            failing(arose + " of 666", x, arose > 666 ? 6 : 0);
        }
        StruckCounts x = Check.suited("fact a;count k worth 1 arose 0 needs a;limit 10;");
        x.days(5);
        due("one more", x.add(0, 1, 5), 1);
        x.add(0, 1, 6);
        x.say(1, 0, 1);
        x.say(2, 0, 1);
        due("AGE 10 of 10", x.of(1, 9), 0);
        due("AGE 11 of 10", x.of(2, 9), 6);
        x.days(999);
        due("days that go by later do not matter", x.of(1, 9), 0);
    }

    @Sentence(of = "Terms 2", says = "Without one it STANDS (0).")
    void standing0() {
        StruckCounts x = one("a", "says k a;plea k b;");
        failing("it STANDS", x, 0);
        due("COUNTS that STAND", x.count(3), 1);
        x.say(0, 0, 2);
        failing("no more", x, 3);
        due("COUNTS that STAND", x.count(3), 0);
    }

    // ---- Terms 2: age and back

    /** COUNT 0 says these FACTS from DAY 0 on, COUNT 1, made like it on DAY 5, says those, AROSE 2. */
    private static StruckCounts early(int said, int thenSaid) {
        StruckCounts x = Check.suited(EIGHT + "count k worth 1 arose 3 needs a;");
        sayAll(x, 0, said, said);
        x.days(5);
        x.add(0, 1, 2);
        sayAll(x, 1, thenSaid, 0);
        return x;
    }

    private static void sayAll(StruckCounts x, int k, int facts, int so) {
        for (int f = 0; f < 8; f++) {
            if ((facts >> f & 1) != 0) {
                x.say(k, f, so >> f & 1);
            }
        }
    }

    @Sentence(of = "Terms 2", says = "AGE: how many days ahead of DAY 0 it AROSE, and its BACK.")
    void ageIsAroseAndBack() {
        StruckCounts x = early(1, 2);
        due("FILED on DAY 0", x.of(0, 4), 3);
        due("FILED on DAY 5", x.of(1, 4), 7);
        x = early(1, 1);
        due("which goes BACK", x.of(1, 4), 2);
        x = Check.suited("fact a;count k worth 1 arose 0 needs a;");
        due("0", x.of(0, 4), 0);
        for (int i = 0; i < 10; i++) {
            x.days(999);
        }
        x.days(9);
        x.add(0, 1, 999);
        due("the most", x.of(1, 4), 10998);
    }

    @Sentence(of = "Terms 2", says = "BACK: the DAY on which it was FILED, or the BACK of another COUNT")
    void backIsTheDayOrThatOfAnother() {
        StruckCounts x = early(0, 0);
        due("of the first", x.of(0, 3), 0);
        due("the DAY", x.of(1, 3), 5);
        x = early(1, 1);
        due("of another", x.of(1, 3), 0);
        due("its DAY still", x.of(1, 2), 5);
        // Not the DAY of the other, but its BACK: through one that does not say the same.
        x.say(1, 1, 1);
        x.days(5);
        x.add(0, 1, 1);
        x.say(2, 1, 1);
        due("half of what the one between says", x.of(1, 3), 0);
        due("through that", x.of(2, 3), 0);
        x.say(1, 2, 1);
        due("a third", x.of(1, 3), 5);
        due("through that", x.of(2, 3), 5);
    }

    @Sentence(of = "Terms 2", says = "(a STRUCK one, too)")
    void backOfAStruckOne() {
        StruckCounts x = early(1, 1);
        x.strike(0);
        due("BACK by a STRUCK one", x.of(1, 3), 0);
        x.strike(1);
        due("BACK of a STRUCK one", x.of(1, 3), 0);
    }

    @Sentence(of = "Terms 2", says = "that was FILED on an earlier DAY")
    void backOfAnEarlierDayAlone() {
        StruckCounts x = Check.suited("fact a;fact b;" + count("k", "a") + "says k a;");
        x.days(1);
        x.add(0, 1, 1);
        x.add(0, 1, 1);
        x.say(1, 1, 1);
        x.say(2, 1, 1);
        due("of the same DAY, the one behind", x.of(2, 3), 1);
        due("of the same DAY, the one ahead", x.of(1, 3), 1);
        x.say(1, 0, 1);
        due("the one ahead goes BACK", x.of(1, 3), 0);
        due("the one behind does not by it", x.of(2, 3), 1);
        x.days(1);
        x.add(0, 1, 1);
        x.say(3, 1, 1);
        due("one DAY later", x.of(3, 3), 0);
        x.say(0, 0, 2);
        x.say(0, 1, 1);
        due("a later one does not matter", x.of(0, 3), 0);
        due("but an earlier one", x.of(2, 3), 0);
    }

    @Sentence(of = "Terms 2", says = "says at least half of the FACTS that this one says")
    void backByHalfOfTheFacts() {
        for (int says = 1; says <= 8; says++) {
            int facts = (1 << says) - 1;
            for (int shared = 0; shared <= says; shared++) {
                StruckCounts x = early((1 << shared) - 1, facts);
                due(shared + " of " + says, x.of(1, 3), 2 * shared >= says ? 0 : 5);
                // What the other one says besides does not matter.
                x = early((1 << shared) - 1 | 255 & ~facts, facts);
                due(shared + " of " + says + " among more", x.of(1, 3), 2 * shared >= says ? 0 : 5);
            }
        }
    }

    @Sentence(of = "Terms 2", says = "(whichever way each of the two says them, as so or as not so; of one that says "
            + "none: no other)")
    void backWhicheverWayButOfNoneNoOther() {
        for (int ways = 0; ways < 4; ways++) {
            StruckCounts x = Check.suited("fact a;" + count("k", "a"));
            x.say(0, 0, ways & 1);
            x.days(7);
            x.add(0, 1, 1);
            due("says none", x.of(1, 3), 7);
            x.say(1, 0, ways >> 1);
            due("ways " + ways, x.of(1, 3), 0);
            x.say(1, 0, 2);
            due("says none again", x.of(1, 3), 7);
        }
        StruckCounts x = early(255, 0);
        due("says none, the other all", x.of(1, 3), 5);
        x = early(0, 0);
        due("neither says any", x.of(1, 3), 5);
        x = early(0, 1);
        due("the other says none", x.of(1, 3), 5);
    }

    @Sentence(of = "Terms 2", says = "the least of all these")
    void backIsTheLeast() {
        StruckCounts x = Check.suited(FOUR + count("k", "a") + "says k a;");
        for (int k = 1; k < 5; k++) {
            x.days(10);
            x.add(0, 1, 1);
        }
        x.say(1, 1, 1);
        x.say(2, 2, 1);
        x.say(3, 3, 1);
        x.say(4, 3, 1);
        due("by COUNT 3 alone", x.of(4, 3), 30);
        x.say(4, 2, 1);
        due("by 2, 3", x.of(4, 3), 20);
        x.say(4, 3, 2);
        x.say(4, 1, 0);
        due("by 1, 2", x.of(4, 3), 10);
        x.say(4, 2, 2);
        x.say(4, 0, 0);
        due("by 0, 1", x.of(4, 3), 0);
        x.say(0, 0, 2);
        due("by 1", x.of(4, 3), 10);
        x.say(1, 1, 2);
        due("its own DAY", x.of(4, 3), 40);
    }

    // ---- Terms 2: won, injury, award

    @Sentence(of = "Terms 2", says = "A COUNT is WON in a WORLD, if all its ELEMENTS hold in it and none of its PLEAS; "
            + "else LOST.")
    void wonByAllElementsAndNoPlea() {
        StruckCounts x = Check.suited(FOUR + count("k", "a needs b") + "plea k c;plea k d;");
        for (int world = 0; world < 16; world++) {
            x.keep(0);
            for (int f = 0; f < 4; f++) {
                x.answer(f, world >> f & 1);
            }
            due("in WORLD " + world, x.judged(0), world == 3 ? 1 : 0);
            due("proofs, WON, in WORLD " + world, x.proofs(0, true), world == 3 ? 1 : 0);
            due("proofs, LOST, in WORLD " + world, x.proofs(0, false), world == 3 ? 0 : 1);
            x.again(0);
        }
        due("of four alike, one", x.proofs(0, true), 1);
        // As many COUNTS, ELEMENTS and PLEAS as there can be, each needing and barred by its own.
        for (int k = 0; k < 5; k++) {
            x = Check.suited("fact a;fact b;fact c;fact d;fact e;fact f;fact g;" + count("p", "a needs b needs c needs d")
                    + count("q", "b needs c needs d needs e") + count("r", "c needs d needs e needs f")
                    + count("s", "d needs e needs f needs g") + count("t", "e needs f needs g needs a")
                    + "plea p e;plea q f;plea r g;plea s a;plea t b;plea t c;");
            int needs = (15 << k | 15 << k >> 7) & 127;
            int bars = k < 4 ? 1 << (k + 4) % 7 : 6;
            due("ELEMENTS of " + k, x.of(k, 5), 4);
            due("one way to win " + k, x.proofs(k, true), 1);
            due("FACTS of that", x.proof(k, true, 0, 0), needs | bars);
            due("so are what it needs", x.proof(k, true, 0, 1), needs);
            due("ways to lose", x.proofs(k, false), k < 4 ? 5 : 6);
        }
    }

    @Sentence(of = "Terms 2", says = "INJURY: COUNTS told the same, or one of which is made like the other, have one "
            + "INJURY, also through others.")
    void oneInjuryAlsoThroughOthers() {
        String five = "fact a;" + count("k", "a") + count("l", "a") + count("m", "a") + count("n", "a")
                + count("o", "a");
        StruckCounts x = Check.suited(five);
        for (int k = 0; k < 5; k++) {
            due("not told the same, " + k, x.of(k, 10), k);
        }
        x = Check.suited(five + "same o m;");
        due("told the same", x.of(4, 10), 2);
        due("made like one of them", x.add(4, 1, 1), 5);
        due("its INJURY", x.of(5, 10), 2);
        due("made like that", x.add(5, 1, 1), 6);
        due("its INJURY", x.of(6, 10), 2);
        due("made like another", x.add(1, 1, 1), 7);
        due("its INJURY", x.of(7, 10), 1);
        // A chain in which each link is told behind the ones that it joins.
        x = Check.suited(five + "same k l;same m n;same n o;same l o;");
        for (int k = 0; k < 5; k++) {
            due("through others, " + k, x.of(k, 10), 0);
        }
        x = Check.suited(five + "same n o;same l o;same k m;");
        int[] least = {0, 1, 0, 1, 1};
        for (int k = 0; k < 5; k++) {
            due("in two, " + k, x.of(k, 10), least[k]);
        }
        x.strike(0);
        x.strike(1);
        due("through a STRUCK one", x.of(2, 10), 0);
        due("through a STRUCK one, too", x.of(4, 10), 1);
    }

    @Sentence(of = "Terms 2", says = "AWARD of a WORLD: the WORTHS together of all COUNTS that STAND and are WON in it, "
            + "of one INJURY the greatest of these alone.")
    void awardPaysAnInjuryOnce() {
        StruckCounts x = Check.suited("fact a;fact b;count k worth 10 arose 1 needs a;"
                + "count l worth 20 arose 1 needs b;count m worth 40 arose 1 needs a;same k l;"
                + "says k a;says l b;says m a;");
        due("l of k, l, and m", x.award(1), 60);
        due("in ab", x.award(2), 3);
        x.answer(1, 0);
        due("b is not so: k and m", x.award(1), 50);
        x.undo();
        x.strike(1);
        due("l does not STAND: k and m", x.award(1), 50);
        x.undo();
        x.add(0, 20, 1);
        x.say(3, 0, 1);
        due("of two greatest one", x.award(1), 60);
        due("in ab or a alone", x.award(2), 1);
        x.add(3, 999, 1);
        x.say(4, 0, 1);
        due("made like k", x.award(1), 1039);
        x = Check.suited("fact a;count k worth 999 arose 1 needs a;count l worth 999 arose 1 needs a;"
                + "count m worth 999 arose 1 needs a;count n worth 999 arose 1 needs a;"
                + "count o worth 999 arose 1 needs a;says k a;says l a;says m a;says n a;says o a;");
        due("the most there can be", x.award(1), 4995);
        due("none", x.award(0), 0);
    }

    @Sentence(of = "Terms 2", says = "LITERALS: FACTS with whether each is so; a WORLD AGREES with them, if each is so in "
            + "it as they tell.")
    void aWorldAgreesIfEachIsSoAsTheyTell() {
        StruckCounts x = Check.suited(FOUR + count("k", "a&!b"));
        due("with no LITERAL each", x.worlds(1), 16);
        x.answer(0, 1);
        due("with one half", x.worlds(1), 8);
        x.answer(1, 0);
        due("with two a quarter", x.worlds(1), 4);
        due("in which a is so and b is not", x.judged(0), 1);
        x.answer(2, 1);
        x.answer(3, 0);
        due("with four one", x.worlds(1), 1);
        due("WORLD 5", x.award(2), 5);
    }

    // ---- promises 6 and 7

    private static StruckCounts two() {
        return Check.suited("fact a 1;fact b 9;fact c;never a&b;count k worth 100 arose 30 needs a needs b|c;"
                + "count l worth 50 arose 299 needs !a;plea l c;plea l b&c;plea k b;says k a;says k c;says l !a;");
    }

    @Sentence(of = "Promise 6", says = "Of a FACT, what 0: ODDS")
    void promise6Odds() {
        StruckCounts x = two();
        int[] odds = {1, 9, 5};
        for (int f = 0; f < 3; f++) {
            due("ODDS of " + f, x.fact(f, 0), odds[f]);
        }
    }

    @Sentence(of = "Promise 6", says = "2: 1 if it is KNOWN to be so, 0 not so, 2 not KNOWN")
    void promise6HowItIsKnown() {
        StruckCounts x = two();
        due("OPEN", x.fact(0, 2), 2);
        x.answer(0, 2);
        due("DENIED", x.fact(0, 2), 2);
        x.answer(0, 3);
        due("NOT KNOWN", x.fact(0, 2), 2);
        x.answer(0, 1);
        due("ADMITTED so", x.fact(0, 2), 1);
        due("b, by a NEVER alone", x.fact(1, 2), 2);
        x.withdraw(0);
        due("OPEN again", x.fact(0, 2), 2);
        x.answer(0, 0);
        due("ADMITTED not so", x.fact(0, 2), 0);
        x.close();
        x.find(1, false);
        due("FOUND not so", x.fact(1, 2), 0);
        x.undo();
        x.find(1, true);
        due("FOUND so", x.fact(1, 2), 1);
    }

    @Sentence(of = "Promise 6", says = "1: how it is (0 to 4)")
    void promise6HowItIs() {
        StruckCounts x = two();
        due("OPEN", x.fact(0, 1), 0);
        x.answer(0, 1);
        due("ADMITTED so", x.fact(0, 1), 1);
        x.answer(1, 0);
        due("ADMITTED not so", x.fact(1, 1), 1);
        x.answer(2, 2);
        due("DENIED", x.fact(2, 1), 2);
        x.answer(2, 3);
        due("NOT KNOWN", x.fact(2, 1), 3);
        x.close();
        x.find(2, true);
        due("FOUND", x.fact(2, 1), 4);
    }

    @Sentence(of = "Promise 6", says = "3: COUNTS that say it (bits; STRUCK ones, too)")
    void promise6Sayers() {
        StruckCounts x = two();
        due("a", x.fact(0, 3), 3);
        due("b", x.fact(1, 3), 0);
        due("c", x.fact(2, 3), 1);
        x.strike(0);
        due("a, by a STRUCK one", x.fact(0, 3), 3);
        due("c, by a STRUCK one", x.fact(2, 3), 1);
        for (int k = 2; k < 8; k++) {
            x.add(0, 1, 1);
            x.say(k, 1, k & 1);
            due("b, by COUNTS up to " + k, x.fact(1, 3), (2 << k) - 4);
        }
    }

    @Sentence(of = "Promise 6", says = "NONE: no such FACT, another what.")
    void promise6None() {
        StruckCounts x = two();
        for (int what = 0; what < 4; what++) {
            due("fact(2, " + what + ")", x.fact(2, what) != NONE, true);
            for (int f : beyond(3)) {
                due("fact(" + f + ", " + what + ")", x.fact(f, what), NONE);
            }
            due("fact(0, " + what + ") of none", new StruckCounts().fact(0, what), NONE);
        }
        for (int f = 0; f < 3; f++) {
            for (int what : beyond(4)) {
                due("fact(" + f + ", " + what + ")", x.fact(f, what), NONE);
            }
        }
    }

    @Sentence(of = "Promise 7", says = "Of a COUNT, what 0: WORTH, 1: how many days ahead it AROSE, 2: the DAY on which it "
            + "was FILED, 3: BACK, 4: AGE")
    void promise7WhatItIs() {
        StruckCounts x = two();
        x.days(20);
        x.add(1, 999, 0);
        x.say(2, 0, 1);
        x.days(20);
        x.add(1, 0, 999);
        int[][] is = {{100, 30, 0, 0, 30}, {50, 299, 0, 0, 299}, {999, 0, 20, 0, 0}, {0, 999, 40, 40, 1039}};
        for (int k = 0; k < 4; k++) {
            for (int what = 0; what < 5; what++) {
                due("of(" + k + ", " + what + ")", x.of(k, what), is[k][what]);
            }
        }
    }

    @Sentence(of = "Promise 7", says = "9: FAILING")
    void promise7Failing() {
        StruckCounts x = two();
        due("k", x.of(0, 9), 0);
        due("l", x.of(1, 9), 0);
        x.answer(2, 1);
        due("l, its PLEA KNOWN", x.of(1, 9), 5);
        x.answer(0, 0);
        due("k, its ELEMENT in none", x.of(0, 9), 4);
    }

    @Sentence(of = "Promise 7", says = "10: the least COUNT of its INJURY (itself, too)")
    void promise7TheLeastOfItsInjury() {
        StruckCounts x = two();
        due("itself, 0", x.of(0, 10), 0);
        due("itself, 1", x.of(1, 10), 1);
        x.strike(1);
        x.add(1, 1, 1);
        due("the one that it was made like, STRUCK", x.of(2, 10), 1);
    }

    @Sentence(of = "Promise 7", says = "7: FACTS that it says (bits), 8: of these the ones as so (bits)")
    void promise7WhatItSays() {
        StruckCounts x = Check.suited(EIGHT + count("k", "a"));
        due("none", x.of(0, 7), 0);
        due("none as so", x.of(0, 8), 0);
        sayAll(x, 0, 255, 0xA5);
        due("all", x.of(0, 7), 255);
        due("some as so", x.of(0, 8), 0xA5);
        x.say(0, 0, 0);
        x.say(0, 7, 2);
        due("all but h", x.of(0, 7), 127);
        due("some as so", x.of(0, 8), 0x24);
    }

    @Sentence(of = "Promise 7", says = "5: how many ELEMENTS, 6: PLEAS")
    void promise7HowManyElementsAndPleas() {
        StruckCounts x = two();
        due("ELEMENTS of k", x.of(0, 5), 2);
        due("PLEAS of k", x.of(0, 6), 1);
        due("ELEMENTS of l", x.of(1, 5), 1);
        due("PLEAS of l", x.of(1, 6), 2);
        x = Check.suited("fact a;" + count("k", "a needs a needs a needs a") + count("l", "a")
                + "plea k a;plea k a;plea k a;plea k a;plea k a;plea k a;");
        due("four ELEMENTS", x.of(0, 5), 4);
        due("six PLEAS", x.of(0, 6), 6);
        due("no PLEA", x.of(1, 6), 0);
    }

    @Sentence(of = "Promise 7", says = "NONE: no such COUNT, another what.")
    void promise7None() {
        for (int what = 0; what < 11; what++) {
            StruckCounts x = two();
            due("of(1, " + what + ")", x.of(1, what) != NONE, true);
            for (int k : beyond(2)) {
                due("of(" + k + ", " + what + ")", x.of(k, what), NONE);
            }
            due("of(0, " + what + ") of none", new StruckCounts().of(0, what), NONE);
        }
        StruckCounts x = two();
        for (int what : beyond(11)) {
            due("of(0, " + what + ")", x.of(0, what), NONE);
        }
        for (int k = 2; k < 8; k++) {
            due("of(" + k + ", 0) ahead", x.of(k, 0), NONE);
            x.add(0, 1, 1);
            due("of(" + k + ", 0)", x.of(k, 0), 1);
        }
        due("of(8, 0)", x.of(8, 0), NONE);
        x.undo();
        due("of(7, 0), undone", x.of(7, 0), NONE);
    }

    // ---- promises 8 and 9

    /** What is SEEN of an expression, where a is ALLEGED so, b not so and c not at all. */
    private void seen(int want, String... expressions) {
        for (String e : expressions) {
            StruckCounts x = Check.suited("fact a;fact b;fact c;" + count("k", e) + "plea k " + e
                    + ";says k a;says k !b;");
            due("SEEN " + e, x.element(0, 0, 0), want);
            due("SEEN of a PLEA " + e, x.bar(0, 0, 0), want);
        }
    }

    @Sentence(of = "Promise 8", says = "what 0: as it is SEEN by ALLEGED")
    void promise8SeenByAlleged() {
        StruckCounts x = Check.suited(FOUR + count("k", "a") + count("l", "a") + count("m", "a")
                + "says k a;says l !a;");
        int[] seen = {1, 0, 2};
        for (int k = 0; k < 3; k++) {
            due("SEEN of " + k, x.element(k, 0, 0), seen[k]);
        }
    }

    @Sentence(of = "Promise 8", says = "SEEN (1 yes, 0 no, 2 open)")
    void promise8YesNoOpen() {
        seen(1, "a");
        seen(0, "!a");
        seen(2, "c");
    }

    @Sentence(of = "Promise 8", says = "a FACT as it is ALLEGED, open if it is not")
    void promise8SeenFact() {
        seen(1, "a", "(a)");
        seen(0, "b");
        seen(2, "c");
        StruckCounts x = Check.suited("fact a;never a;" + count("k", "a"));
        due("open, whatever the NEVERS tell", x.element(0, 0, 0), 2);
        x.answer(0, 0);
        due("open, whatever is KNOWN", x.element(0, 0, 0), 2);
        x.say(0, 0, 0);
        due("ALLEGED", x.element(0, 0, 0), 0);
        x.say(0, 0, 2);
        due("no more", x.element(0, 0, 0), 2);
    }

    @Sentence(of = "Promise 8", says = "! turns yes and no")
    void promise8SeenNot() {
        seen(0, "!a", "!!!a");
        seen(1, "!b", "!!a", "!(b)");
        seen(2, "!c", "!!c");
    }

    @Sentence(of = "Promise 8", says = "& is no if one is no, else yes if all are yes")
    void promise8SeenAnd() {
        seen(0, "a&b", "b&a", "b&c", "c&b", "a&c&b", "b&b");
        seen(1, "a&a", "a&!b&a");
        seen(2, "a&c", "c&a", "c&c", "c&!c", "a&a&c");
    }

    @Sentence(of = "Promise 8", says = "| is yes if one is yes, else no if all are no")
    void promise8SeenOr() {
        seen(1, "a|b", "b|a", "a|c", "c|a", "b|c|a", "a|a");
        seen(0, "b|b", "b|!a|b");
        seen(2, "b|c", "c|b", "c|c", "c|!c", "b|b|c");
    }

    @Sentence(of = "Promise 8", says = "N of is yes if N or more are yes, else no if fewer than N are yes or open")
    void promise8SeenOf() {
        seen(1, "0 of(b)", "0 of(c)", "1 of(a)", "1 of(a,b,c)", "2 of(a,a,c)", "2 of(a,!b,b)", "1 of(a,a)",
                "6 of(a,a,a,a,a,a)", "5 of(a,a,a,c,a,a)", "0 of(b,b,b,b,b,b)");
        seen(0, "1 of(b)", "2 of(a)", "2 of(c)", "3 of(a,b,c)", "2 of(b,b,c)", "6 of(a,a,a,a,a,b)",
                "6 of(c,c,c,c,c)", "5 of(a,c,c,c,b,b)");
        seen(2, "1 of(c)", "1 of(b,c)", "2 of(a,b,c)", "2 of(c,c,b)", "6 of(a,a,a,c,a,a)", "6 of(c,c,c,c,c,c)",
                "5 of(a,c,c,c,a,b)");
    }

    @Sentence(of = "Promise 8", says = "all else is open")
    void promise8SeenElse() {
        seen(2, "c", "!c", "c&!c", "c|!c", "1 of(c,!c)", "a&(c|!c)", "b|c&!c", "(a|b)&c", "!(a&c)");
        StruckCounts x = Check.suited("fact a;fact b;fact c;" + count("k", "c|!c") + "says k a;");
        due("SEEN open", x.element(0, 0, 0), 2);
        due("though SURE", x.element(0, 0, 1), 1);
    }

    @Sentence(of = "Promise 8", says = "1: 1 if it is SURE by ALLEGED, else 0")
    void promise8Sure() {
        StruckCounts x = one("a needs !a needs b needs !d", "says k a;");
        int[] sure = {1, 0, 0, 1};
        for (int i = 0; i < 4; i++) {
            due("SURE " + i, x.element(0, i, 1), sure[i]);
        }
    }

    @Sentence(of = "Promise 8", says = "2: 1 if it holds in all WORLDS that AGREE with KNOWN, 0 in none, 2 else.")
    void promise8Holds() {
        StruckCounts x = one("a needs !a needs b needs !d", "says k a;");
        for (int i = 0; i < 4; i++) {
            due("open " + i, x.element(0, i, 2), 2);
        }
        x.answer(0, 1);
        int[] holds = {1, 0, 2, 1};
        for (int i = 0; i < 4; i++) {
            due("a ADMITTED " + i, x.element(0, i, 2), holds[i]);
        }
        // One WORLD of sixteen alone tells the one from the other.
        x = Check.suited(FOUR + count("k", "a|b|c|d needs a&b&c&d needs a|!a needs a&!a"));
        int[] of16 = {2, 2, 1, 0};
        for (int i = 0; i < 4; i++) {
            due("of sixteen " + i, x.element(0, i, 2), of16[i]);
        }
    }

    @Sentence(of = "Promise 8", says = "Of the i-th ELEMENT of a COUNT (i from 0 on)")
    void promise8From0On() {
        StruckCounts x = Check.suited(FOUR + count("k", "a needs b needs c needs d") + count("l", "d needs c")
                + "says k a;says k !c;says k d;says l !d;");
        int[][] seen = {{1, 2, 0, 1}, {0, 2, NONE, NONE}};
        for (int k = 0; k < 2; k++) {
            for (int i = 0; i < 4; i++) {
                due("element(" + k + ", " + i + ", 0)", x.element(k, i, 0), seen[k][i]);
            }
        }
    }

    @Sentence(of = "Promise 8", says = "NONE: no such ones.")
    void promise8None() {
        for (int what = 0; what < 3; what++) {
            StruckCounts x = two();
            due("element(0, 1, " + what + ")", x.element(0, 1, what) != NONE, true);
            for (int i : beyond(2)) {
                due("element(0, " + i + ", " + what + ")", x.element(0, i, what), NONE);
            }
            for (int i : beyond(1)) {
                due("element(1, " + i + ", " + what + ")", x.element(1, i, what), NONE);
            }
            for (int k : beyond(2)) {
                due("element(" + k + ", 0, " + what + ")", x.element(k, 0, what), NONE);
            }
        }
        StruckCounts x = two();
        for (int what : beyond(3)) {
            due("element(0, 0, " + what + ")", x.element(0, 0, what), NONE);
        }
        due("of no COUNT", new StruckCounts().element(0, 0, 0), NONE);
    }

    @Sentence(of = "Promise 9", says = "Of the i-th PLEA of a COUNT: likewise.")
    void promise9Likewise() {
        StruckCounts x = Check.suited(FOUR + "never a&d;" + count("k", "a") + count("l", "a")
                + "plea l a;plea k b;plea l d;plea k a;plea l c|!c;says k a;says k !b;says l a;");
        int[][] seen = {{0, 1, NONE}, {1, 2, 2}};
        int[][] sure = {{0, 1, NONE}, {1, 0, 1}};
        int[][] holds = {{2, 2, NONE}, {2, 2, 1}};
        int[][] then = {{2, 0, NONE}, {0, 1, 1}};
        for (int time = 0; time < 2; time++) {
            for (int k = 0; k < 2; k++) {
                for (int i = 0; i < 3; i++) {
                    due("bar(" + k + ", " + i + ", 0)", x.bar(k, i, 0), seen[k][i]);
                    due("bar(" + k + ", " + i + ", 1)", x.bar(k, i, 1), sure[k][i]);
                    due("bar(" + k + ", " + i + ", 2)", x.bar(k, i, 2), (time == 0 ? holds : then)[k][i]);
                }
            }
            x.answer(3, 1);
        }
        for (int what = 0; what < 3; what++) {
            x = two();
            for (int i : beyond(2)) {
                due("bar(1, " + i + ", " + what + ")", x.bar(1, i, what), NONE);
            }
            for (int i : beyond(1)) {
                due("bar(0, " + i + ", " + what + ")", x.bar(0, i, what), NONE);
            }
            for (int k : beyond(2)) {
                due("bar(" + k + ", 0, " + what + ")", x.bar(k, 0, what), NONE);
            }
        }
        x = two();
        for (int what : beyond(3)) {
            due("bar(1, 1, " + what + ")", x.bar(1, 1, what), NONE);
        }
        due("of a COUNT without PLEAS", one("a", "").bar(0, 0, 0), NONE);
    }

    // ---- promises 21 to 23

    @Sentence(of = "Promise 21", says = "How many WORLDS there are (what 0), that AGREE with KNOWN (1).")
    void promise21HowMany() {
        StruckCounts x = Check.suited(EIGHT);
        for (int f = 0; f < 8; f++) {
            due("all", x.worlds(0), 256);
            due("left", x.worlds(1), 256 >> f);
            x.answer(f, f & 1);
        }
        due("one left", x.worlds(1), 1);
        due("one of none", new StruckCounts().worlds(1), 1);
    }

    @Sentence(of = "Promise 21", says = "NONE for another what.")
    void promise21None() {
        for (int what : beyond(2)) {
            due("worlds(" + what + ")", two().worlds(what), NONE);
            due("worlds(" + what + ") of none", new StruckCounts().worlds(what), NONE);
        }
    }

    @Sentence(of = "Promise 22", says = "no WORLD AGREES with ALLEGED of both (1, 0; of one and the same: with its own)")
    void promise22Clash() {
        StruckCounts x = Check.suited(FOUR + "never a&d;" + count("k", "a") + count("l", "a") + count("m", "a")
                + count("n", "a") + "says k a;says l !a;says m d;");
        int[][] clash = {{0, 1, 1, 0}, {1, 0, 0, 0}, {1, 0, 0, 0}, {0, 0, 0, 0}};
        for (int a = 0; a < 4; a++) {
            for (int b = 0; b < 4; b++) {
                due("clash(" + a + ", " + b + ")", x.clash(a, b), clash[a][b]);
            }
        }
        x.say(0, 3, 1);
        due("of one and the same", x.clash(0, 0), 1);
        due("with one that says nothing", x.clash(0, 3), 1);
        due("with one that says nothing, the other way round", x.clash(3, 0), 1);
    }

    @Sentence(of = "Promise 22", says = "NONE: no such ones.")
    void promise22None() {
        StruckCounts x = two();
        for (int bad : beyond(2)) {
            due("clash(" + bad + ", 0)", x.clash(bad, 0), NONE);
            due("clash(0, " + bad + ")", x.clash(0, bad), NONE);
            due("clash(" + bad + ", " + bad + ")", x.clash(bad, bad), NONE);
        }
        due("of none", new StruckCounts().clash(0, 0), NONE);
    }

    @Sentence(of = "Promise 23", says = "Whether COUNT b is WON in each WORLD, of those that AGREE with KNOWN, in which "
            + "COUNT a is (1, 0).")
    void promise23Implied() {
        StruckCounts x = Check.suited(FOUR + count("k", "a&b") + count("l", "a") + count("m", "a&!a")
                + count("n", "a|!a") + count("o", "c"));
        int[][] implied = {{1, 1, 0, 1, 0}, {0, 1, 0, 1, 0}, {1, 1, 1, 1, 1}, {0, 0, 0, 1, 0}, {0, 0, 0, 1, 1}};
        for (int a = 0; a < 5; a++) {
            for (int b = 0; b < 5; b++) {
                due("implied(" + a + ", " + b + ")", x.implied(a, b), implied[a][b]);
            }
        }
        x.answer(2, 0);
        due("o is WON in none then", x.implied(4, 2), 1);
        x.answer(1, 1);
        due("b is so in all then", x.implied(1, 0), 1);
        x.strike(0);
        due("STRUCK or not", x.implied(1, 0), 1);
    }

    @Sentence(of = "Promise 23", says = "NONE: no such ones.")
    void promise23None() {
        StruckCounts x = two();
        for (int bad : beyond(2)) {
            due("implied(" + bad + ", 0)", x.implied(bad, 0), NONE);
            due("implied(0, " + bad + ")", x.implied(0, bad), NONE);
            due("implied(" + bad + ", " + bad + ")", x.implied(bad, bad), NONE);
        }
        due("of none", new StruckCounts().implied(0, 0), NONE);
    }

    // ---- promise 24

    private void lacks(String what, StruckCounts x, int k, int many, int facts, int so) {
        due("lacks 0: " + what, x.lacks(k, 0), many);
        due("lacks 1: " + what, x.lacks(k, 1), facts);
        due("lacks 2: " + what, x.lacks(k, 2), so);
    }

    @Sentence(of = "Promise 24", says = "What a COUNT lacks: the fewest LITERALS")
    void promise24TheFewest() {
        lacks("none, if it STANDS", one("a", "says k a;"), 0, 0, 0, 0);
        lacks("one, not two of lesser FACTS", one("b&c|d", ""), 0, 1, 8, 8);
        lacks("two", one("b&c|a&b&c", ""), 0, 2, 6, 6);
        lacks("all", one("a&b&c&!d", "says k b;"), 0, 2, 5, 5);
        lacks("all eight", Check.suited(EIGHT + count("k", "!a&b&!c&d&!e&f&!g&h")), 0, 8, 255, 0xAA);
        // One WORLD alone of all is in the way: the first, and the last.
        lacks("the first WORLD", Check.suited(EIGHT + count("k", "a|b|c|d|e|f|g|h")), 0, 1, 1, 1);
        lacks("the last WORLD", Check.suited(EIGHT + count("k", "!a|!b|!c|!d|!e|!f|!g|!h")), 0, 1, 1, 0);
    }

    @Sentence(of = "Promise 24", says = "of FACTS that it does not say and that are not KNOWN the other way")
    void promise24OfWhichFacts() {
        lacks("what it says it can't say otherwise", one("b|c", "says k !b;"), 0, 1, 4, 4);
        lacks("none is left", one("b", "says k !b;"), 0, -2, -2, -2);
        StruckCounts x = one("b|c", "");
        x.answer(1, 0);
        lacks("KNOWN the other way", x, 0, 1, 4, 4);
        x = one("b|c", "");
        x.answer(1, 1);
        lacks("KNOWN the same way", x, 0, 1, 2, 2);
        x = one("!b|c", "");
        x.answer(1, 1);
        lacks("KNOWN so, as not so", x, 0, 1, 4, 4);
        x = one("b|c", "");
        x.answer(1, 2);
        lacks("DENIED is not KNOWN", x, 0, 1, 2, 2);
    }

    @Sentence(of = "Promise 24", says = "so that it would STAND if it said them, too (all else as it is)")
    void promise24SoThatItWouldStand() {
        lacks("not into a PLEA", one("b|c", "plea k b;"), 0, 1, 4, 4);
        lacks("not into no WORLD", one("d|c&b", "says k a;"), 0, 2, 6, 6);
        lacks("no WORLD already", one("b", "says k a;says k d;"), 0, -2, -2, -2);
        StruckCounts x = one("b", "plea k c;");
        x.answer(2, 1);
        lacks("barred by KNOWN", x, 0, -2, -2, -2);
        // BACK by what it would say: of the early one it needs half of the FACTS.
        x = Check.suited(FOUR + count("k", "a") + "says k c;says k d;limit 5;");
        x.days(5);
        x.add(0, 1, 0);
        lacks("AGE 5 of 5", x, 1, 1, 1, 1);
        x.add(0, 1, 1);
        lacks("AGE 6 of 5", x, 2, 2, 5, 1);
        x.say(2, 0, 1);
        lacks("half of two", x, 2, 1, 4, 0);
        x.say(2, 1, 1);
        lacks("half of four", x, 2, 2, 12, 0);
        x.say(0, 2, 2);
        lacks("half of what it would say can't be", x, 2, -2, -2, -2);
        // The early one's own BACK is too late.
        x = Check.suited(FOUR + count("k", "a") + "limit 4;");
        x.days(5);
        x.add(0, 1, 0);
        x.say(1, 1, 1);
        x.days(5);
        x.add(0, 1, 0);
        lacks("BACK 5 of 4", x, 2, -2, -2, -2);
        x.say(0, 1, 1);
        lacks("BACK 0 by that one", x, 2, 2, 3, 1);
        // Six PLEAS, each of which could be SURE.
        lacks("none of six PLEAS", one("b|c", "plea k d;plea k a;plea k b;plea k !c&b;plea k d&c;plea k a;"), 0, 1, 4, 4);
        lacks("not the first", one("b|c|d", "plea k b;plea k a;plea k !c;"), 0, 1, 4, 4);
        lacks("not the second", one("b|c|d", "plea k a;plea k b;plea k !c;"), 0, 1, 4, 4);
        lacks("not the sixth", one("b|c|d", "plea k a;plea k !c;plea k a;plea k a;plea k a;plea k b;"), 0, 1, 4, 4);
    }

    @Sentence(of = "Promise 24", says = "of as many the least FACTS, then the least of these")
    void promise24TheLeast() {
        lacks("of two FACTS", one("c|b", ""), 0, 1, 2, 2);
        lacks("of pairs", one("b&d|c&d|b&c", ""), 0, 2, 6, 6);
        lacks("a pair with d is more than one without", one("a&!d&b|b&c", "says k !d;"), 0, 2, 3, 3);
        lacks("not so ahead of so", one("b&!c|!b&c", ""), 0, 2, 6, 2);
        lacks("the least FACTS ahead of the least as so", one("b|!c", ""), 0, 1, 2, 2);
        lacks("neither so", one("!b&!c|b&c", ""), 0, 2, 6, 0);
    }

    @Sentence(of = "Promise 24", says = "what 0: how many, 1: their FACTS (bits), 2: of these the ones as so (bits)")
    void promise24HowManyWhichAndWhichSo() {
        lacks("b so, c not so", one("b&!c", ""), 0, 2, 6, 2);
        lacks("neither so", one("!b&!c", ""), 0, 2, 6, 0);
        lacks("all four", one("!a&b&c&!d|a&b&!c&!d&c", ""), 0, 4, 15, 6);
    }

    @Sentence(of = "Promise 24", says = "NONE: no such ones")
    void promise24None() {
        StruckCounts x = two();
        for (int what = 0; what < 3; what++) {
            for (int k : beyond(2)) {
                due("lacks(" + k + ", " + what + ")", x.lacks(k, what), NONE);
            }
        }
        x.strike(0);
        for (int k = 0; k < 2; k++) {
            for (int what : beyond(3)) {
                due("lacks(" + k + ", " + what + ")", x.lacks(k, what), NONE);
            }
        }
        due("of none", new StruckCounts().lacks(0, 0), NONE);
    }

    @Sentence(of = "Promise 24", says = "-2: none would do.")
    void promise24NoneWouldDo() {
        StruckCounts x = two();
        x.strike(0);
        lacks("STRUCK", x, 0, -2, -2, -2);
        lacks("never SURE", one("a&!a", ""), 0, -2, -2, -2);
        x = one("b", "");
        x.answer(1, 0);
        lacks("in no WORLD", x, 0, -2, -2, -2);
        lacks("LATE", one("a", "says k a;limit 299;"), 0, -2, -2, -2);
        lacks("a PLEA that is SURE", one("b", "says k a;plea k a;"), 0, -2, -2, -2);
        lacks("at odds with itself", one("b", "says k a;says k d;"), 0, -2, -2, -2);
        lacks("a PLEA that comes with what it needs", one("b", "plea k b;"), 0, -2, -2, -2);
    }

    // ---- promise 25

    @Sentence(of = "Promise 25", says = "A WORTH that grows n times (0 to 400), each time by a tenth of what it is, cut")
    void promise25Grows0To400Times() {
        StruckCounts x = Check.suited("fact a;count k worth 19 arose 1 needs a;count l worth 9 arose 1 needs a;"
                + "count m worth 10 arose 1 needs a;count n worth 0 arose 1 needs a;");
        int[] grown = {19, 20, 22, 24, 26, 28, 30, 33};
        for (int n = 0; n < grown.length; n++) {
            due("19, " + n + " times", x.grown(0, n), grown[n]);
        }
        due("9, 400 times", x.grown(1, 400), 9);
        due("0, 400 times", x.grown(3, 400), 0);
        due("10, 0 times", x.grown(2, 0), 10);
        due("10, once", x.grown(2, 1), 11);
        due("10, 11 times", x.grown(2, 11), 22);
        due("9, 401 times", x.grown(1, 401), NONE);
        due("9, -1 times", x.grown(1, -1), NONE);
        due("400 times, to the end", x.grown(2, 400), -2);
    }

    @Sentence(of = "Promise 25", says = "NONE: no such ones")
    void promise25None() {
        StruckCounts x = two();
        for (int n : new int[] {0, 1, 400}) {
            for (int k : beyond(2)) {
                due("grown(" + k + ", " + n + ")", x.grown(k, n), NONE);
            }
        }
        for (int n : beyond(401)) {
            due("grown(0, " + n + ")", x.grown(0, n), NONE);
        }
        due("of none", new StruckCounts().grown(0, 0), NONE);
    }

    @Sentence(of = "Promise 25", says = "-2: it would be above 2147483647.")
    void promise25Above2147483647() {
        // Of all WORTHS, the ones that come nearest to 2147483647, from below and from above.
        long most = Integer.MAX_VALUE;
        long below = 0;
        long above = Long.MAX_VALUE;
        for (int worth = 10; worth <= 999; worth++) {
            long is = worth;
            int n = 0;
            while (is + is / 10 <= most) {
                is += is / 10;
                n++;
            }
            long next = is + is / 10;
            if (is > below || next < above || worth % 100 == 99) {
                StruckCounts x = Check.suited("fact a;count k worth " + worth + " arose 1 needs a;");
                due(worth + ", " + n + " times", x.grown(0, n), is);
                due(worth + ", " + (n + 1) + " times", x.grown(0, n + 1), -2);
                due(worth + ", 400 times", x.grown(0, 400), -2);
            }
            below = Math.max(below, is);
            above = Math.min(above, next);
        }
    }
}
