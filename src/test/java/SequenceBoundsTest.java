/** The bounds that "Terms" names in part 3 of RESOLVING: sequences, their beginnings and ends, the rules W1 to N2. */
public final class SequenceBoundsTest {
    public static void main(String[] args) {
        Checks.runTests(SequenceBoundsTest.class);
    }

    // Runs and sequences

    private static void sequences(int want, String text) {
        Checks.due("sequences of " + text, Checks.resolved(text, 0).paragraph(0, 3), want);
    }

    static void aRunIsOfOneLevel() {
        sequences(1, "ar1!");
        sequences(2, "aea");
        sequences(3, "aeapa");
        sequences(1, "aepa");
        sequences(1, "eapeap");
    }

    static void whatIsRemovedPartsNoRun() {
        sequences(1, "a0a");
        sequences(0, "0");
        sequences(0, "eEoOpp");
        sequences(2, "ea\n");
    }

    static void aMatchThatBeginsARunBeginsNoSequence() {
        sequences(2, "aiaP");
        sequences(2, "iaPa");
        sequences(3, "aiaPiaP");
        sequences(1, "iP");
    }

    static void aPdiThatIsNoMatchBeginsASequence() {
        sequences(1, "P");
        sequences(2, "aeP");
        sequences(3, "eapPea");
    }

    static void anIsolateWithoutAMatchEndsItsSequence() {
        sequences(2, "aia");
        sequences(1, "ai");
        Checks.levels(0, "r!ir", "1001");
    }

    static void aSequenceGoesOnBehindTheMatch() {
        Checks.levels(0, "r!iaP!r", "1112111");
        Checks.kinds(0, "fIrP1", "11116");
        Checks.kinds(0, "aifP1", "00100");
        Checks.levels(0, "r!iaP!iaP!r", "11121112111");
    }

    static void aSequenceGoesOnOverWhatIsRemoved() {
        Checks.levels(0, "r!i0aP0!r", "111-21-11");
        Checks.levels(0, "r!i0P!r", "111-111");
    }

    static void aSequenceMayGoThroughTheWholeText() {
        BidiLevels x = Checks.resolved("r" + "iaP".repeat(600) + "r", 0);
        Checks.due("sequences", x.paragraph(0, 3), 601);
        Checks.due("the first isolate", x.level(1), 1);
        Checks.due("the first one in an isolate", x.level(2), 2);
        Checks.due("the last PDI", x.level(1800), 1);
    }

    // BEFORE and BEHIND

    static void beforeTheFirstCharacterStandsBase() {
        Checks.kinds(0, "!r", "01");
        Checks.kinds(1, "!a", "10");
        Checks.kinds(0, "1", "0");
        Checks.kinds(1, "1", "3");
        Checks.kinds(0, "~", "0");
        Checks.kinds(1, "~", "1");
    }

    static void behindTheLastCharacterStandsBase() {
        Checks.kinds(0, "r!", "10");
        Checks.kinds(0, "a!", "00");
        Checks.kinds(1, "r!", "11");
        Checks.kinds(1, "a!", "01");
    }

    static void beforeIsByTheGreaterLevel() {
        Checks.levels(0, "erp!r", "-1-11");
        Checks.levels(0, "erp1", "-1-2");
        Checks.levels(0, "erp~", "-1-1");
        Checks.kinds(0, "ae1", "0-3");
        Checks.kinds(0, "eE1", "--0");
        Checks.kinds(1, "Eap!a", "-0-00");
        Checks.kinds(1, "Eap1", "-0-0");
        Checks.kinds(1, "E1", "-0");
    }

    static void behindIsByTheGreaterLevel() {
        Checks.levels(0, "r!er", "11-1");
        Checks.levels(0, "er!pa", "-11-0");
        Checks.kinds(1, "a!Ea", "00-0");
        Checks.kinds(1, "Ea!pr", "-00-1");
        Checks.kinds(0, "r!Ea", "10-0");
    }

    static void beforeAndBehindAreBeforeLevelsGoUp() {
        Checks.kinds(0, "eap!r", "-0-11");
        Checks.kinds(0, "r!ea", "11-0");
    }

    static void whatIsRemovedIsNeitherBeforeNorBehind() {
        Checks.levels(0, "r!0e0r", "11---1");
        Checks.levels(0, "er0p0!r", "-1---11");
        Checks.kinds(0, "0!r", "-01");
        Checks.kinds(0, "r!0", "10-");
    }

    static void behindAnIsolateWithoutAMatchStandsBase() {
        Checks.kinds(0, "r!ir", "1001");
        Checks.kinds(1, "a!Ia", "0110");
        Checks.kinds(0, "r!ir\n", "10010");
        Checks.kinds(0, "r!i0r", "100-1");
    }

    static void behindAMatchStandsWhatIsBehindIt() {
        Checks.kinds(0, "r!iaPr", "111011");
        Checks.kinds(0, "r!iaPer", "11101-1");
        Checks.kinds(0, "r!iaPa", "100000");
    }

    // W1

    static void theFirstMarkBecomesBefore() {
        Checks.kinds(0, "~r", "01");
        Checks.kinds(1, "~a", "10");
        Checks.kinds(0, "e~a", "-10");
        Checks.kinds(0, "erp~a", "-1-10");
    }

    static void aMarkBecomesWhatIsBeforeIt() {
        Checks.kinds(0, "r~~a~~", "111000");
        Checks.kinds(1, "1~", "33");
        Checks.kinds(0, "9~", "66");
        Checks.kinds(0, "f~1", "116");
        Checks.kinds(1, "1,~1", "3113");
        Checks.kinds(0, "r0~", "1-1");
    }

    /** Only a bracket shows that a mark is ON, and not what an isolate's class is; so here it is a mark. */
    private static BidiLevels withMarkAsOpening(String text, int base) {
        BidiLevels x = Checks.signs();
        x.property('(', '(', 8);
        Checks.addAll(x, text);
        x.resolve(base);
        return x;
    }

    static void aMarkBecomesOnBehindAPdi() {
        Checks.levels("rP(r)a", withMarkAsOpening("rP(r)a", 0), "111110");
        Checks.levels("riP(r)a", withMarkAsOpening("riP(r)a", 0), "1111110");
        Checks.levels("rP0(r)a", withMarkAsOpening("rP0(r)a", 0), "11-1110");
    }

    static void aMarkBehindALetterIsNoBracket() {
        Checks.levels("r(r)a", withMarkAsOpening("r(r)a", 0), "11100");
    }

    static void aMarkBecomesOnBehindAnIsolate() {
        String deep = "eE".repeat(62) + "e";
        BidiLevels x = withMarkAsOpening(deep + "rI(a)a", 0);
        Checks.due("the opening one behind an isolate too many", x.level(127), 125);
        Checks.due("its closing one", x.level(129), 125);
        BidiLevels y = withMarkAsOpening(deep + "r((a)a", 0);
        Checks.due("a closing one whose opening one is a letter's mark", y.level(129), 126);
    }

    static void forMarksAPdiUnderAnOverrideIsAPdi() {
        Checks.levels("OPpE(r)r", withMarkAsOpening("OPpE(r)r", 0), "-2--2323");
    }

    static void aMarkUnderAnOverrideIsNone() {
        Checks.kinds(0, "era~po~", "-100--1");
        Checks.kinds(0, "ea(a)po~", "-0000--1");
    }

    // W2 to W7

    static void numbersBehindAlBecomeAn() {
        Checks.kinds(0, "f1", "16");
        Checks.kinds(0, "f!1!1", "11616");
        Checks.kinds(0, "fr1", "113");
        Checks.kinds(0, "fa1", "100");
    }

    static void alBeforeTheSequenceDoesNotCount() {
        Checks.kinds(0, "fe1", "1-3");
        Checks.kinds(0, "fi1P1", "11316");
    }

    static void oneSeparatorBetweenNumbersBecomesThat() {
        Checks.kinds(1, "1+1", "333");
        Checks.kinds(1, "1,1", "333");
        Checks.kinds(0, "9,9", "666");
        Checks.kinds(0, "9+9", "616");
        Checks.kinds(1, "1,9", "316");
        Checks.kinds(1, "9,1", "613");
        Checks.kinds(1, "1++1", "3113");
        Checks.kinds(1, "1,,1", "3113");
        Checks.kinds(1, "1+,1", "3113");
    }

    static void aSeparatorAtAnEndOfTheSequenceIsNotBetween() {
        Checks.kinds(1, ",1", "13");
        Checks.kinds(1, "1,", "31");
        Checks.kinds(1, "+", "1");
        Checks.kinds(1, "1,E1", "31-0");
        Checks.kinds(0, "r1,e1", "131-3");
    }

    static void separatorsOneAfterTheOtherCount() {
        Checks.kinds(1, "1,1+1,1", "3333333");
        Checks.kinds(0, "9,9,9", "66666");
        Checks.kinds(1, "1,01", "33-3");
    }

    static void terminatorsDirectlyBesideANumberBecomeIt() {
        Checks.kinds(1, "$1", "33");
        Checks.kinds(1, "1$", "33");
        Checks.kinds(1, "$$1$$", "33333");
        Checks.kinds(1, "$0$1", "3-33");
        Checks.kinds(1, "1$1", "333");
    }

    static void terminatorsNotDirectlyBesideANumberDoNot() {
        Checks.kinds(1, "$", "1");
        Checks.kinds(1, "$!1", "113");
        Checks.kinds(1, "1!$", "311");
        Checks.kinds(1, "$9$", "161");
        Checks.kinds(1, "$,1", "113");
        Checks.kinds(1, "$E1", "1-0");
        Checks.kinds(0, "f$1", "116");
    }

    static void terminatorsCountForNoSeparator() {
        Checks.kinds(1, "1+$1", "3133");
        Checks.kinds(1, "1$+1", "3313");
    }

    static void numbersBehindLBecomeL() {
        Checks.kinds(1, "a1", "00");
        Checks.kinds(1, "a!1", "000");
        Checks.kinds(1, "ar1", "013");
        Checks.kinds(0, "r1", "13");
        Checks.kinds(0, "11", "00");
        Checks.kinds(0, "a9", "06");
        Checks.kinds(0, "a91", "060");
    }

    // N0

    /** Such brackets show it: in a pair they get the direction of what is in them, else that of the level. */
    private static String nested(int depth) {
        return "r" + "(".repeat(depth) + "r" + ")".repeat(depth) + "a";
    }

    static void sixtyThreeOpeningsMayWait() {
        BidiLevels x = Checks.resolved(nested(63), 0);
        Checks.due("the innermost closing one", x.level(65), 1);
        Checks.due("the outermost closing one", x.level(127), 1);
    }

    static void theOpening64EndsTheLooking() {
        BidiLevels x = Checks.resolved(nested(64), 0);
        Checks.due("the innermost closing one", x.level(66), 0);
        Checks.due("the outermost closing one", x.level(129), 0);
    }

    static void pairsBeforeTheOpening64Stay() {
        BidiLevels x = Checks.resolved("r(r)a" + nested(64), 0);
        Checks.due("the closing one of a pair before", x.level(3), 1);
        Checks.due("the outermost closing one", x.level(134), 0);
    }

    static void pairsBehindTheOpening64AreNotFound() {
        BidiLevels x = Checks.resolved("(".repeat(64) + "ar(r)a", 0);
        Checks.due("the closing one of a pair behind", x.level(68), 0);
    }

    static void openingsThatWereClosedDoNotWait() {
        String closed = "r" + "(".repeat(62) + "()".repeat(100) + "(r)";
        BidiLevels x = Checks.resolved(closed + ")".repeat(62) + "a", 0);
        Checks.due("the closing one of the last pair", x.level(265), 1);
        Checks.due("the outermost closing one", x.level(327), 1);
        BidiLevels y = Checks.resolved("r[" + "(".repeat(62) + "](r)a", 0);
        Checks.due("a pair behind a closing one that took 62 away", y.level(67), 1);
    }

    static void eachSequenceHasItsOwnOpenings() {
        BidiLevels x = Checks.resolved("r" + "(".repeat(64) + "i(a)aP", 0);
        Checks.due("a closing one in an isolate", x.level(68), 1);
        String inner = "ia" + "(".repeat(40) + "a" + ")".repeat(40) + "rP";
        BidiLevels y = Checks.resolved("r" + "(".repeat(40) + inner + "r" + ")".repeat(40) + "a", 0);
        Checks.due("the last of 40 closing ones in an isolate", y.level(123), 2);
        Checks.due("the last of 40 closing ones about it", y.level(166), 1);
        BidiLevels z = Checks.resolved("(".repeat(64) + "\nr(r)a", 0);
        Checks.due("a closing one in the next paragraph", z.level(68), 1);
    }

    static void anOpeningUnderAnOverrideDoesNotWait() {
        BidiLevels x = Checks.resolved("E" + "(".repeat(63) + "pO(pE" + "r" + ")".repeat(63) + "r", 0);
        Checks.due("the innermost closing one", x.level(70), 2);
        Checks.due("the outermost closing one", x.level(132), 2);
    }

    static void aClosingOneWithoutAnOpeningOneIsNoPair() {
        Checks.levels(0, "r)r(a", "11100");
        Checks.levels(0, ")r", "01");
        Checks.levels(0, "r(r]a", "11100");
    }

    static void anOpeningOneWithoutAClosingOneIsNoPair() {
        Checks.levels(0, "r(ra", "1110");
        Checks.levels(0, "r((r)a", "111110");
        Checks.levels(1, "a(a", "222");
    }

    static void aClosingOneTakesAllAboveAway() {
        Checks.levels(0, "r([r)]a", "1111100");
        Checks.levels(0, "r[(r]r)a", "11111100");
    }

    static void aClosingOneIsForTheTopmostThatAsksForIt() {
        Checks.levels(0, "a(r(r)a", "0011110");
        Checks.levels(0, "(r(r)a", "011110");
    }

    static void aPairWithNothingStrongInItGetsNothing() {
        Checks.levels(0, "r()r", "1111");
        Checks.levels(0, "r(!)a", "10000");
        Checks.levels(1, "a()a", "2222");
        Checks.levels(0, "r(iaP)r", "1112111");
    }

    static void aPairWithTheLevelsDirectionInItGetsThat() {
        Checks.levels(0, "r(ra)r", "101001");
        Checks.levels(0, "r(ar)r", "100101");
        Checks.levels(1, "a(ra)a", "211212");
        Checks.levels(1, "a(ar)a", "212112");
        Checks.levels(0, "r(a)r", "10001");
    }

    static void aPairWithTheOtherDirectionInItIsByWhatIsBefore() {
        Checks.levels(0, "r(r)a", "11110");
        Checks.levels(0, "a(r)r", "00101");
        Checks.levels(0, "r!(r)a", "111110");
        Checks.levels(1, "a(a)r", "22221");
        Checks.levels(1, "r(a)a", "11212");
    }

    static void beforeStandsBeforeTheFirstOpeningOne() {
        Checks.levels(0, "(r)r", "0101");
        Checks.levels(1, "(a)a", "1212");
        Checks.levels(0, "erp(r)a", "-1-1110");
        Checks.levels(1, "Eap(a)r", "-2-2221");
    }

    static void numbersAreRForPairs() {
        Checks.levels(0, "r(1)a", "11210");
        Checks.levels(0, "r(9)a", "11210");
        Checks.levels(0, "9(r)a", "21110");
        Checks.levels(1, "a(a9)a", "212212");
    }

    static void pairsAreInTheOrderOfTheOpeningOnes() {
        Checks.levels(0, "r(r[r])a", "11111110");
        Checks.levels(0, "a(r)[r]r", "00100101");
        Checks.levels(0, "r(a)[r]r", "10000101");
        Checks.levels(0, "a([r])r", "0001001");
    }

    static void bracketsAreOnNow() {
        BidiLevels x = Checks.signs();
        x.property(')', ')', 12);
        Checks.addAll(x, "r(r)a");
        x.resolve(0);
        Checks.levels("r(r)a with a blank as closing one", x, "11100");
        Checks.levels(0, "r(ro)pa", "111-1-0");
        Checks.levels(0, "re(p)r", "1-1-11");
    }

    static void bracketsMayBeOnByW6() {
        int[] classes = {4, 5, 7};
        for (int kind : classes) {
            BidiLevels x = Checks.signs();
            x.property('(', ')', kind);
            Checks.addAll(x, "r(r)a");
            x.resolve(0);
            Checks.levels("r(r)a with brackets of class " + kind, x, "11110");
            x.clear();
            Checks.addAll(x, "(r)r");
            x.resolve(0);
            Checks.levels("(r)r with brackets of class " + kind, x, "0101");
        }
    }

    static void pairsOfASequenceBeforeAreGone() {
        Checks.levels(0, "r(r)a\nr!r!a", "11110011100");
        Checks.levels(0, "(r)a\n!r!r", "010000111");
    }

    static void marksDirectlyBehindABracketGetItsDirection() {
        Checks.levels(0, "r(r)~a", "111110");
        Checks.levels(0, "r(r)~~a", "1111110");
        Checks.levels(0, "r(r)0~a", "1111-10");
        Checks.levels(0, "a(~r)~r", "0001001");
        Checks.levels(0, "r(r)~", "11111");
    }

    static void marksNotDirectlyBehindABracketDoNot() {
        Checks.levels(0, "r(r)!~a", "1111000");
        Checks.levels(0, "r(r)~!~a", "11111000");
        Checks.levels(0, "r()~a", "10000");
    }

    // N1, N2 and the LEVEL

    static void neutralsBetweenTheSameGetThat() {
        Checks.levels(0, "r!r", "111");
        Checks.levels(1, "a!a", "222");
        Checks.levels(0, "r \t!r", "11111");
        Checks.levels(0, "r!iP!r", "111111");
        Checks.levels(0, "r!9!r", "11211");
        Checks.levels(0, "r1!1", "1212");
    }

    static void neutralsBetweenOthersGetTheLevels() {
        Checks.levels(0, "a!r", "001");
        Checks.levels(1, "a!r", "211");
        Checks.levels(0, "r!a", "100");
        Checks.levels(1, "r!a", "112");
        Checks.levels(0, "9!a", "200");
    }

    static void neutralsAtTheEndsOfASequenceCountBeforeAndBehind() {
        Checks.levels(0, "!", "0");
        Checks.levels(1, "!", "1");
        Checks.levels(0, "!!r!!", "00100");
        Checks.levels(1, "!!a!!", "11211");
        Checks.levels(0, "e!p", "-1-");
        Checks.levels(0, "er!", "-11");
    }

    static void atAnEvenLevelROneNumbersTwoUp() {
        Checks.levels(0, "ar9r1", "01212");
        Checks.levels(0, "Ear9r1", "-23434");
    }

    static void atAnOddLevelLAndNumbersOneUp() {
        Checks.levels(1, "ra9r1", "12212");
        Checks.levels(0, "era9r1", "-12212");
    }

    static void theGreatestLevelIs126() {
        String deep = "eE".repeat(62);
        BidiLevels x = Checks.resolved(deep + "ar1e9ra1", 0);
        int[] want = {124, 125, 126, Checks.NONE, 126, 125, 126, 126};
        for (int i = 0; i < want.length; i++) {
            Checks.due("level(" + (124 + i) + ")", x.level(124 + i), want[i]);
        }
        x.line(124, 132);
        Checks.due("the level there of the first one seen", x.seen(0, 1), 124);
        Checks.due("the place of the last one", x.place(131), 2);
    }
}
