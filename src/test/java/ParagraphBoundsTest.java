/** The bounds that "Terms" names in parts 1 and 2 of RESOLVING: paragraphs, matches, FIRST STRONG, explicit levels. */
public final class ParagraphBoundsTest {
    private static final int NONE = Checks.NONE;

    public static void main(String[] args) {
        Checks.runTests(ParagraphBoundsTest.class);
    }

    // 1. Paragraphs

    private static void ends(String text, int... want) {
        BidiLevels x = Checks.signs();
        Checks.addAll(x, text);
        Checks.due("paragraphs of " + text, x.resolve(0), want.length);
        int begin = 0;
        for (int k = 0; k < want.length; k++) {
            Checks.due("where paragraph " + k + " of " + text + " begins", x.paragraph(k, 0), begin);
            Checks.due("where paragraph " + k + " of " + text + " ends", x.paragraph(k, 1), want[k]);
            begin = want[k];
        }
    }

    static void paragraphsEndBehindEachB() {
        ends("a\nr", 2, 3);
        ends("\na", 1, 2);
        ends("a\n\nr\na", 2, 3, 5, 6);
    }

    static void theLastParagraphEndsWithTheText() {
        ends("a", 1);
        ends("arar", 4);
    }

    static void thereIsNoEmptyParagraph() {
        ends("");
        ends("\n", 1);
        ends("\n\n", 1, 2);
        ends("a\n", 2);
    }

    static void aParagraphMayHaveNoCharacterLeft() {
        ends("0\n0", 2, 3);
        Checks.levels(0, "0\n0", "-0-");
    }

    static void whatIsOpenEndsWithTheParagraph() {
        Checks.levels(0, "er\nr", "-101");
        Checks.levels(0, "oa\na", "-100");
        Checks.levels(0, "ir\nr", "0101");
        top(1, 0, "i\neP");
    }

    static void whatWasTooManyEndsWithTheParagraph() {
        top(1, 0, embeddings(0, 124) + "E\ne");
        top(1, 0, isolates(0, 124) + "I\ni");
    }

    static void lettersOfTheParagraphBeforeDoNotCount() {
        Checks.kinds(0, "f\n1", "100");
        Checks.kinds(0, "r\n1", "100");
        Checks.kinds(0, "r\n!r", "1001");
        Checks.kinds(0, "r\n~", "100");
        Checks.kinds(0, "r(\nr)a", "100100");
    }

    // Matches

    static void matchesAreCounted() {
        Checks.matches("IP", 1, 0);
        Checks.matches("iP", 1, 0);
        Checks.matches("FP", 1, 0);
        Checks.matches("IiFPPP", 5, 4, 3, 2, 1, 0);
        Checks.matches("IPiP", 1, 0, 3, 2);
        Checks.matches("IiPFPP", 5, 2, 1, 4, 3, 0);
    }

    static void anIsolateMayHaveNoMatch() {
        Checks.matches("IiP", NONE, 2, 1);
        Checks.matches("IiPa", NONE, 2, 1, NONE);
    }

    static void aPdiMayBeNoMatch() {
        Checks.matches("PIP", NONE, 2, 1);
        Checks.matches("IPP", 1, 0, NONE);
    }

    static void matchesAreInTheParagraph() {
        Checks.matches("I\nP", NONE, NONE, NONE);
        Checks.matches("Ii\nPP", NONE, NONE, NONE, NONE, NONE);
        Checks.matches("I\nIP", NONE, NONE, 3, 2);
    }

    static void embeddingsDoNotPartMatches() {
        Checks.matches("IePp", 2, NONE, 0, NONE);
        Checks.matches("eIpP", NONE, 3, NONE, 1);
    }

    static void tooManyIsolatesHaveMatches() {
        String deep = isolates(0, 125);
        BidiLevels x = Checks.resolved(deep + "iIPP", 0);
        Checks.due("the match of the first one too many", x.match(125), 128);
        Checks.due("the match of the second one too many", x.match(126), 127);
        Checks.due("the isolate of their first PDI", x.match(127), 126);
        Checks.due("the isolate of their second PDI", x.match(128), 125);
    }

    static void theTextMayBeFullOfIsolates() {
        BidiLevels x = Checks.resolved("I".repeat(1000) + "P".repeat(1000), 2);
        int[][] want = {{0, 1999}, {1, 1998}, {999, 1000}, {1000, 999}, {1999, 0}};
        for (int[] one : want) {
            Checks.due("match(" + one[0] + ")", x.match(one[0]), one[1]);
        }
        Checks.due("the level of the isolate 62", x.level(62), 124);
        Checks.due("the level of the isolate 63, the first one too many", x.level(63), 124);
        Checks.due("the level of its PDI", x.level(1936), 124);
        Checks.due("the level of the last PDI", x.level(1999), 0);
        BidiLevels y = Checks.resolved("F".repeat(2000), 2);
        Checks.due("the match of the last of 2000 isolates", y.match(1999), NONE);
        BidiLevels z = Checks.resolved("P".repeat(2000), 2);
        Checks.due("the isolate of the last of 2000 PDIs", z.match(1999), NONE);
    }

    // FIRST STRONG, and BASE told 2

    static void baseIsByTheFirstStrong() {
        Checks.bases("ra", 1);
        Checks.bases("fa", 1);
        Checks.bases("ar", 0);
        Checks.bases("1+$9,~0\t !r", 1);
        Checks.bases("1+$9,~0\t !a", 0);
    }

    static void baseIs0WithoutAStrong() {
        Checks.bases("19 !", 0);
        Checks.bases("0", 0);
        Checks.bases("\n", 0);
        Checks.bases("P", 0);
        Checks.bases("I", 0);
    }

    static void baseIsOfEachParagraph() {
        Checks.bases("a\nr\n!\nf", 0, 1, 0, 1);
        Checks.bases("\nr", 0, 1);
        Checks.bases("!\nr\n", 0, 1);
    }

    static void baseToldIsThatOfAllParagraphs() {
        for (int base = 0; base < 2; base++) {
            BidiLevels x = Checks.resolved("r\na\n!", base);
            for (int k = 0; k < 3; k++) {
                Checks.due("base " + k + ", told " + base, x.paragraph(k, 2), base);
            }
        }
    }

    static void theFirstStrongIsNotInAnIsolate() {
        Checks.bases("IaPr", 1);
        Checks.bases("irPa", 0);
        Checks.bases("FrPa", 0);
        Checks.bases("IaiaPaPr", 1);
        Checks.bases("IrP", 0);
    }

    static void theFirstStrongIsNotBehindAnIsolateWithoutAMatch() {
        Checks.bases("ir", 0);
        Checks.bases("!Fr", 0);
        Checks.bases("IIrPr", 0);
        Checks.bases("IrIPr", 0);
    }

    static void theFirstStrongMayStandBeforeAnIsolate() {
        Checks.bases("rIa", 1);
        Checks.bases("rIaP", 1);
    }

    static void theFirstStrongMayBeDirectlyBehindAMatch() {
        Checks.bases("IPr", 1);
        Checks.bases("IPIPr", 1);
    }

    static void anIsolateWithoutAMatchHidesNoOtherParagraph() {
        Checks.bases("i\nr", 0, 1);
    }

    static void aPdiThatIsNoMatchHidesNothing() {
        Checks.bases("Pr", 1);
        Checks.bases("IPPr", 1);
    }

    static void theFirstStrongMayBeInAnEmbedding() {
        Checks.bases("Era", 1);
        Checks.bases("Ora", 1);
        Checks.bases("oar", 0);
    }

    // An FSI, by the level of the neutral behind it: 1 in an RLI, 2 in an LRI

    private static void fsi(String text, int want) {
        BidiLevels x = Checks.resolved(text, 0);
        Checks.due("the level in the FSI of " + text, x.level(text.indexOf('F') + 1), want);
    }

    static void anFsiIsByTheFirstStrongInIt() {
        fsi("F!rP", 1);
        fsi("F!fP", 1);
        fsi("F!aP", 2);
        fsi("F!raP", 1);
        fsi("F!arP", 2);
    }

    static void anFsiWithoutAStrongActsAsLri() {
        fsi("F!P", 2);
        fsi("F!19P", 2);
        fsi("F!", 2);
    }

    static void anFsiGoesUpToItsMatch() {
        fsi("F!Pr", 2);
        fsi("rF!Pr", 2);
        fsi("aF!rP", 1);
    }

    static void anFsiWithoutAMatchGoesUpToTheParagraphsEnd() {
        fsi("F!r", 1);
        fsi("F!a", 2);
        fsi("F!\nr", 2);
        fsi("F!r\na", 1);
    }

    static void isolatesInAnFsiHideWhatIsInThem() {
        fsi("F!iaPrP", 1);
        fsi("F!IrPaP", 2);
        fsi("F!IrPP", 2);
        fsi("F!IaPr", 1);
    }

    static void anIsolateWithoutAMatchInAnFsiHidesAllToItsEnd() {
        fsi("F!Ir", 2);
        fsi("F!ir", 2);
        fsi("F!Fr", 2);
    }

    static void anFsiInAnFsiIsByItsOwn() {
        Checks.levels(0, "FF!rP!aPa", "023322200");
        Checks.levels(0, "FF!aP!rPa", "012211100");
    }

    // 2. Explicit levels

    /** Embeddings, each with the next level, up to that one. */
    private static String embeddings(int base, int level) {
        StringBuilder text = new StringBuilder();
        for (int next = base + 1; next <= level; next++) {
            text.append(next % 2 == 1 ? 'e' : 'E');
        }
        return text.toString();
    }

    private static String isolates(int base, int level) {
        return embeddings(base, level).replace('e', 'i').replace('E', 'I');
    }

    /** The level on top of the stack behind a text: the lesser one of those of an L and an R there. */
    private static void top(int want, int base, String text) {
        BidiLevels x = Checks.resolved(text + "ar", base);
        int ofL = x.level(text.length());
        int ofR = x.level(text.length() + 1);
        Checks.due("the top's level behind " + text + " at " + base, Math.min(ofL, ofR), want);
    }

    static void theNextLevelIsTheLeastAboveTheTops() {
        top(1, 0, "e");
        top(2, 0, "E");
        top(3, 1, "e");
        top(2, 1, "E");
        top(1, 0, "i");
        top(2, 0, "I");
        top(3, 1, "i");
        top(2, 1, "I");
    }

    static void embeddingsReachTheLevel125() {
        top(124, 0, embeddings(0, 124));
        top(125, 0, embeddings(0, 125));
        top(125, 1, embeddings(1, 125));
        top(125, 0, embeddings(0, 123) + "e");
        top(125, 0, embeddings(0, 123) + "o");
        top(124, 0, embeddings(0, 122) + "O");
        top(123, 0, "e".repeat(62));
        top(125, 0, "e".repeat(63));
        top(124, 0, "E".repeat(62));
    }

    static void embeddingsAbove125AreTooMany() {
        top(124, 0, embeddings(0, 124) + "E");
        top(124, 0, embeddings(0, 124) + "O");
        top(125, 0, embeddings(0, 125) + "E");
        top(125, 0, embeddings(0, 125) + "O");
        top(125, 0, embeddings(0, 125) + "e");
        top(125, 0, embeddings(0, 125) + "o");
        top(125, 0, "e".repeat(64));
        top(124, 0, "E".repeat(63));
    }

    static void anOverrideTooManyOverridesNothing() {
        BidiLevels x = Checks.resolved(embeddings(0, 125) + "oa", 0);
        Checks.due("the class under an RLO too many", x.kind(126), 0);
        BidiLevels y = Checks.resolved(embeddings(0, 124) + "Or", 0);
        Checks.due("the class under an LRO too many", y.kind(125), 1);
    }

    static void isolatesReachTheLevel125() {
        top(125, 0, isolates(0, 125));
        top(125, 1, isolates(1, 125));
        top(125, 0, isolates(0, 123) + "i");
        top(125, 0, isolates(0, 124) + "Fr");
        top(124, 0, isolates(0, 123) + "Fa");
    }

    static void isolatesAbove125AreTooMany() {
        top(124, 0, isolates(0, 124) + "I");
        top(124, 0, isolates(0, 124) + "Fa");
        top(125, 0, isolates(0, 125) + "i");
        top(125, 0, isolates(0, 125) + "I");
        top(125, 0, embeddings(0, 125) + "i");
    }

    static void anIsolateTooManyHasTheTopsLevel() {
        BidiLevels x = Checks.resolved(isolates(0, 124) + "IaPa", 0);
        for (int i = 124; i < 128; i++) {
            Checks.due("level(" + i + ")", x.level(i), 124);
        }
    }

    static void embeddingsTooManyAreClosedFirst() {
        top(124, 0, embeddings(0, 124) + "Ep");
        top(123, 0, embeddings(0, 124) + "Epp");
        top(124, 0, embeddings(0, 124) + "EEpp");
        top(123, 0, embeddings(0, 124) + "EEppp");
    }

    static void nothingIsOpenedWhileEmbeddingsAreTooMany() {
        top(124, 0, embeddings(0, 124) + "Ee");
        top(124, 0, embeddings(0, 124) + "Eepp");
        top(123, 0, embeddings(0, 124) + "Eeppp");
        top(125, 0, embeddings(0, 124) + "Epe");
        top(124, 0, embeddings(0, 124) + "Ei");
        top(125, 0, embeddings(0, 124) + "EiPpe");
        top(124, 0, embeddings(0, 124) + "EiPe");
    }

    static void nothingIsOpenedWhileIsolatesAreTooMany() {
        top(124, 0, isolates(0, 124) + "Ii");
        top(124, 0, isolates(0, 124) + "Ie");
        top(125, 0, isolates(0, 124) + "IPi");
        top(125, 0, isolates(0, 124) + "IPe");
        top(124, 0, isolates(0, 124) + "IiPi");
        top(125, 0, isolates(0, 124) + "IiPPi");
    }

    static void embeddingsAreNotCountedWhileIsolatesAreTooMany() {
        top(125, 0, isolates(0, 124) + "IEPe");
        top(125, 0, isolates(0, 124) + "IEEPi");
        top(123, 0, embeddings(0, 124) + "IEPp");
    }

    static void pdfDoesNothingWhileIsolatesAreTooMany() {
        top(124, 0, embeddings(0, 124) + "Ip");
        top(124, 0, embeddings(0, 124) + "IpP");
        top(123, 0, embeddings(0, 124) + "IpPp");
        top(124, 0, embeddings(0, 124) + "EIpPe");
    }

    static void pdiClosesIsolatesTooManyFirst() {
        top(124, 0, isolates(0, 124) + "IP");
        top(123, 0, isolates(0, 124) + "IPP");
        top(124, 0, isolates(0, 124) + "IIPP");
        top(123, 0, isolates(0, 124) + "IIPPP");
    }

    static void pdiForgetsEmbeddingsTooMany() {
        String deep = "i" + embeddings(1, 124) + "EE";
        top(0, 0, deep + "P");
        top(1, 0, deep + "Pe");
        top(1, 0, deep + "Pi");
    }

    static void pdiWithoutAnOpenIsolateForgetsNothing() {
        top(124, 0, embeddings(0, 124) + "EPe");
        top(123, 0, embeddings(0, 124) + "EPpp");
    }

    static void pdiWithoutAnOpenIsolateClosesNothing() {
        top(1, 0, "eP");
        top(0, 0, "P");
        top(1, 1, "P");
        top(2, 0, "eEP");
        Checks.levels(0, "eP!", "-11");
        Checks.levels(0, "iPe!P!", "00-111");
    }

    static void pdiClosesUpToTheLastIsolate() {
        top(0, 0, "iEeP");
        top(1, 0, "iiP");
        top(1, 0, "iIeEP");
        top(1, 0, "eiEP");
        top(0, 0, "iIPP");
        top(0, 0, "iIPPP");
    }

    static void pdfLeavesTheOnlyEntry() {
        top(0, 0, "p");
        top(1, 1, "p");
        top(0, 0, "epp");
        top(1, 0, "eppe");
    }

    static void pdfLeavesAnIsolatesEntry() {
        top(1, 0, "ip");
        top(1, 0, "iEpp");
        top(3, 0, "eip");
        top(1, 0, "eipP");
        top(0, 0, "eipPp");
    }

    static void pdfClosesOneEmbedding() {
        top(1, 0, "eEp");
        top(0, 0, "eEpp");
        top(0, 0, "Op");
        top(0, 0, "op");
    }

    static void bGetsBaseAndNoOverride() {
        Checks.levels(0, "eE\n", "--0");
        Checks.levels(1, "EE\n", "--1");
        Checks.levels(0, "o\n", "-0");
        Checks.kinds(0, "o\n", "-0");
        Checks.levels(1, "O\n", "-1");
        Checks.kinds(1, "O\n", "-1");
        Checks.levels(0, "i\n", "00");
        Checks.due("sequences of a letter and B at 1", Checks.resolved("r\n", 1).paragraph(0, 3), 1);
    }

    static void bGetsBaseWhateverWasThereBefore() {
        BidiLevels x = Checks.resolved("eEa", 0);
        Checks.due("the level of a letter", x.level(2), 2);
        x.clear();
        Checks.addAll(x, "eE\n");
        x.resolve(0);
        Checks.due("the level of a B in its place", x.level(2), 0);
    }

    static void overridesAreClasses() {
        Checks.kinds(0, "oarf1+$9,~\t !", "-111111111111");
        Checks.kinds(0, "Oarf1+$9,~\t !", "-000000000000");
        Checks.levels(0, "Or", "-2");
        Checks.levels(0, "oa", "-1");
    }

    static void isolatesAndPdisGetTheOverride() {
        Checks.kinds(0, "oIaP", "-101");
        Checks.kinds(0, "OirP", "-010");
        Checks.kinds(0, "oPa", "-11");
        Checks.levels(0, "oIaPa", "-1211");
    }

    static void whatIsOpenedInAnOverrideHasNone() {
        Checks.kinds(0, "oeap", "--0-");
        Checks.levels(0, "oeapa", "--4-1");
        Checks.kinds(0, "oiaPa", "-1011");
        Checks.kinds(0, "EaOrpr", "-0-0-1");
    }

    static void anOverrideEndsWithItsEntry() {
        Checks.kinds(0, "oapa", "-1-0");
        Checks.kinds(0, "ioaPa", "0-100");
    }
}
