/** The bounds that "Terms" names for the LINE, what is SEEN of it, and the MIRROR. */
public final class LineBoundsTest {
    private static final int NONE = Checks.NONE;

    public static void main(String[] args) {
        Checks.runTests(LineBoundsTest.class);
    }

    // The levels in a line

    static void blanksAtTheLinesEndHaveBase() {
        Checks.shown(0, "r r", 0, 2, "r ", "10");
        Checks.shown(0, "r r", 0, 3, "r r", "111");
        Checks.shown(0, "r  r", 0, 3, "r  ", "100");
        Checks.shown(1, "a a", 0, 2, " a", "12");
        Checks.shown(0, "r ", 0, 2, "r ", "10");
    }

    static void blanksAtTheLinesBeginningKeepTheirLevel() {
        Checks.shown(0, "r r", 1, 3, "r ", "11");
        Checks.shown(0, "r  r", 2, 4, "r ", "11");
    }

    static void aLineOfBlanksAloneHasBase() {
        Checks.shown(0, "r  r", 1, 3, "  ", "00");
        Checks.shown(0, "r r", 1, 2, " ", "0");
        Checks.shown(1, "a a", 1, 2, " ", "1");
    }

    static void isolatesAndPdisAtTheLinesEndHaveBase() {
        Checks.shown(0, "riPr", 0, 2, "ri", "10");
        Checks.shown(0, "rIPr", 0, 3, "rIP", "100");
        Checks.shown(0, "rF Pr", 0, 4, "rF P", "1000");
        Checks.shown(0, "riPr", 0, 4, "rPir", "1111");
    }

    static void sAndBHaveBaseAnywhere() {
        Checks.shown(0, "r\tr", 0, 3, "r\tr", "101");
        Checks.shown(1, "a\ta", 0, 3, "a\ta", "212");
        Checks.shown(0, "\tr", 0, 2, "\tr", "01");
        Checks.shown(0, "r\tr", 1, 2, "\t", "0");
        Checks.shown(0, "er\n", 0, 3, "r\n", "10");
        Checks.shown(1, "a\n", 0, 2, "\na", "12");
    }

    static void blanksBeforeAnSOrBHaveBase() {
        Checks.shown(0, "r \tr", 0, 4, "r \tr", "1001");
        Checks.shown(0, "r iP \tr", 0, 7, "r iP \tr", "1000001");
        Checks.shown(0, "er  \n", 0, 5, "r  \n", "1000");
        Checks.shown(0, "r \t \tr", 0, 6, "r \t \tr", "100001");
    }

    static void blanksBehindAnSKeepTheirLevel() {
        Checks.shown(0, "er\t r", 0, 5, "r\tr ", "1011");
    }

    static void onlyBlanksInARowBeforeThoseHaveBase() {
        Checks.shown(0, "er !", 0, 4, "! r", "111");
        Checks.shown(0, "er !\tr", 0, 6, "! r\tr", "11101");
        Checks.shown(0, "er ~", 0, 4, "~ r", "111");
        Checks.shown(0, "er 9 ", 0, 5, "9 r ", "2110");
    }

    static void whatIsRemovedDoesNotPartThem() {
        Checks.shown(0, "er 0", 0, 4, "r ", "10");
        Checks.shown(0, "er 0 p", 0, 6, "r  ", "100");
        Checks.shown(0, "er 0\tr", 0, 6, "r \tr", "1001");
        Checks.shown(0, "eri0P0\tr", 0, 8, "riP\tr", "10001");
        Checks.shown(0, "er 0r", 0, 4, "r ", "10");
    }

    static void classesAtFirstCountInALine() {
        Checks.shown(0, "oa ", 0, 3, "a ", "10");
        Checks.shown(0, "oa\ta", 0, 4, "a\ta", "101");
        Checks.shown(0, "oa iPpa", 0, 7, "Pi aa", "11110");
        Checks.shown(0, "oaIP", 0, 4, "aIP", "100");
    }

    static void theBaseOfALineIsThatOfItsParagraph() {
        BidiLevels x = Checks.resolved("r \na ", 2);
        Checks.shown("first paragraph of two", x, 0, 2, " r", "11");
        Checks.shown("first paragraph of two", x, 0, 3, "\n r", "111");
        Checks.shown("second paragraph of two", x, 3, 5, "a ", "00");
        BidiLevels y = Checks.resolved("a \nr ", 2);
        Checks.shown("second paragraph, at 1", y, 3, 5, " r", "11");
        Checks.shown("first paragraph, at 0", y, 0, 3, "a \n", "000");
    }

    // What is seen

    static void whatIsRemovedIsNotSeen() {
        Checks.shown(0, "a0b", 0, 3, "ab", "00");
        Checks.shown(0, "0", 0, 1, "", "");
        Checks.shown(0, "eEoOp0", 0, 6, "", "");
        Checks.shown(0, "0a0", 0, 3, "a", "0");
        Checks.shown(0, "er0rp", 0, 5, "rr", "11");
    }

    static void withoutAnOddLevelNothingIsTurned() {
        Checks.shown(0, "ab", 0, 2, "ab", "00");
        Checks.shown(1, "ab", 0, 2, "ab", "22");
        Checks.shown(0, "aIbPa", 0, 5, "aIbPa", "00200");
        Checks.shown(0, "EaEbpap", 0, 7, "aba", "242");
    }

    static void theGreatestLevelAloneIsNotTurned() {
        String deep = "eE".repeat(62) + "e";
        BidiLevels x = Checks.resolved(deep + "ab", 0);
        Checks.due("how many are seen", x.line(0, 127), 2);
        Checks.due("the level of the first one", x.seen(0, 1), 126);
        Checks.due("the position of the first one", x.seen(0, 0), 125);
        Checks.due("the place of the last one", x.place(126), 1);
    }

    static void rowsOfAtLeastALevelAreTurned() {
        Checks.shown(0, "arfb", 0, 4, "afrb", "0110");
        Checks.shown(0, "r19", 0, 3, "19r", "221");
        Checks.shown(0, "arf19rb", 0, 7, "ar19frb", "0122110");
        Checks.shown(0, "rfarf", 0, 5, "frafr", "11011");
    }

    static void aWholeLineMayBeTurned() {
        Checks.shown(1, "rf", 0, 2, "fr", "11");
        Checks.shown(1, "r19f", 0, 4, "f19r", "1221");
        Checks.shown(1, "abr", 0, 3, "rab", "122");
    }

    static void levelsBetweenAreTurnedThoughNoCharacterHasThem() {
        Checks.shown(1, "!erfpr", 0, 6, "rfr!", "1331");
        Checks.shown(0, "rIab", 0, 4, "rIab", "1022");
        Checks.shown(1, "rEEab", 0, 5, "abr", "441");
        Checks.shown(1, "ieabrfP", 0, 7, "Pfrabi", "155661");
    }

    static void theLowestOddLevelIsTheLast() {
        Checks.shown(0, "Eabrfp", 0, 6, "abfr", "2233");
        Checks.shown(0, "eearfp", 0, 6, "fra", "334");
        Checks.shown(1, "eabrf", 0, 5, "frab", "3344");
    }

    static void aLineOfOneIsSeenAsItIs() {
        Checks.shown(0, "arf", 1, 2, "r", "1");
        Checks.shown(0, "ar9", 2, 3, "9", "2");
        Checks.shown(1, "r", 0, 1, "r", "1");
    }

    static void onlyTheLineIsTurned() {
        Checks.shown(0, "rfrf", 0, 2, "fr", "11");
        Checks.shown(0, "rfrf", 1, 3, "rf", "11");
        BidiLevels x = Checks.resolved("rfrf", 0);
        x.line(1, 3);
        Checks.due("the first position seen", x.seen(0, 0), 2);
        Checks.due("the second position seen", x.seen(1, 0), 1);
    }

    // The mirror

    static void atAnOddLevelMirrorsAreSeen() {
        Checks.shown(1, "(", 0, 1, ")", "1");
        Checks.shown(1, ")", 0, 1, "(", "1");
        Checks.shown(0, "r<r>r", 0, 5, "r<r>r", "11111");
        Checks.shown(0, "o<", 0, 2, ">", "1");
    }

    static void atAnEvenLevelNoMirrorIsSeen() {
        Checks.shown(0, "(", 0, 1, "(", "0");
        Checks.shown(1, "a<a", 0, 3, "a<a", "222");
        Checks.shown(0, "O(", 0, 2, "(", "2");
    }

    static void whatHasNoMirrorIsSeenAsItIs() {
        Checks.shown(1, "[r]", 0, 3, "]r[", "111");
        Checks.shown(1, "!", 0, 1, "!", "1");
    }

    /** A blank with a mirror, whose level in the line is not its LEVEL. */
    private static BidiLevels withMirroredBlank(String text, int base) {
        BidiLevels x = Checks.signs();
        x.mirror(' ', '!');
        Checks.addAll(x, text);
        x.resolve(base);
        return x;
    }

    static void mirrorsAreByTheLevelInTheLine() {
        Checks.shown("blank at 1, at the line's end 0", withMirroredBlank("r r", 0), 0, 2, "r ", "10");
        Checks.shown("blank at 1, in the line 1", withMirroredBlank("r r", 0), 0, 3, "r!r", "111");
        Checks.shown("blank at 2, at the line's end 1", withMirroredBlank("a a", 1), 0, 2, "!a", "12");
        Checks.shown("blank at 2, in the line 2", withMirroredBlank("a a", 1), 0, 3, "a a", "222");
    }

    static void aMirrorChangesNoPositionAndNoLevel() {
        BidiLevels x = Checks.resolved("r<", 1);
        x.line(0, 2);
        Checks.due("position", x.seen(0, 0), 1);
        Checks.due("level", x.seen(0, 1), 1);
        Checks.due("as what", x.seen(0, 2), (int) '>');
        Checks.due("place", x.place(1), 0);
        Checks.due("kind", x.kind(1), 1);
    }

    static void theGreatestAndTheLeastCharacterMayBeMirrors() {
        BidiLevels x = new BidiLevels();
        x.mirror(0, Checks.LAST);
        x.property(0, Checks.LAST, 1);
        x.add(0, 5, Checks.LAST, NONE, NONE);
        x.resolve(0);
        x.line(0, 3);
        Checks.due("the greatest one as", x.seen(0, 2), 0);
        Checks.due("one without", x.seen(1, 2), 5);
        Checks.due("the least one as", x.seen(2, 2), Checks.LAST);
    }
}
