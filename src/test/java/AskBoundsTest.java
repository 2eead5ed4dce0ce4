import java.util.ArrayList;
import java.util.List;
import java.util.function.Consumer;

/** The boundary cases of promises 8 to 14, of what the calls ask: when they throw, answer NONE, change nothing. */
public final class AskBoundsTest {
    private static final int NONE = Checks.NONE;
    private static final int LEAST_INT = Checks.LEAST_INT;
    private static final int GREATEST_INT = Checks.GREATEST_INT;
    private static final String ARGUMENT = Checks.ARGUMENT;
    private static final String STATE = Checks.STATE;
    private static final String INDEX = Checks.INDEX;

    public static void main(String[] args) {
        Checks.runTests(AskBoundsTest.class);
    }

    // "What asks for levels throws IllegalState when ..."

    /** Each question, once with arguments that are good and once with wrong ones. */
    private static List<Consumer<BidiLevels>> questions() {
        List<Consumer<BidiLevels>> all = new ArrayList<>();
        all.add(x -> x.paragraph(0, 0));
        all.add(x -> x.paragraph(-1, 4));
        all.add(x -> x.level(0));
        all.add(x -> x.level(-1));
        all.add(x -> x.kind(0));
        all.add(x -> x.kind(-1));
        all.add(x -> x.match(0));
        all.add(x -> x.match(-1));
        all.add(x -> x.line(0, 1));
        all.add(x -> x.line(-1, -1));
        all.add(x -> x.line(1, 1));
        all.add(x -> x.seen(0, 0));
        all.add(x -> x.seen(-1, 3));
        all.add(x -> x.place(0));
        all.add(x -> x.place(-1));
        return all;
    }

    private static void nothingIsAnswered(String when, BidiLevels x) {
        int number = 0;
        for (Consumer<BidiLevels> question : questions()) {
            Checks.dueState("question " + number + " " + when, () -> question.accept(x));
            number++;
        }
    }

    private static void unresolvedBy(String what, Consumer<BidiLevels> telling) {
        BidiLevels x = Checks.withLine();
        String before = Checks.allAnswers(x);
        telling.accept(x);
        nothingIsAnswered("after " + what, x);
        x.clear();
        Checks.addAll(x, "a(r)<0i1P\nr");
        x.resolve(2);
        x.line(2, 9);
        Checks.due("all answers, resolved anew after " + what, Checks.allAnswers(x), before);
    }

    static void askingBeforeResolvingThrowsState() {
        nothingIsAnswered("of a new object", new BidiLevels());
        nothingIsAnswered("of a text not resolved", Checks.withText());
    }

    static void askingAfterPropertyThrowsState() {
        unresolvedBy("property", x -> x.property(500, 500, 1));
    }

    static void askingAfterTheSamePropertyAgainThrowsState() {
        unresolvedBy("the same property again", x -> x.property('r', 'r', 1));
    }

    static void askingAfterBracketThrowsState() {
        unresolvedBy("bracket", x -> x.bracket(500, 501));
    }

    static void askingAfterMirrorThrowsState() {
        unresolvedBy("mirror", x -> x.mirror(500, 501));
    }

    static void askingAfterAddThrowsState() {
        unresolvedBy("add", x -> x.add('a', NONE, 0, 0, 0));
    }

    static void askingAfterAddOfNoneThrowsState() {
        unresolvedBy("add of none", x -> x.add(NONE, 0, 0, 0, 0));
    }

    static void askingAfterClearThrowsState() {
        unresolvedBy("clear", BidiLevels::clear);
    }

    static void askingAfterClearOfNoneThrowsState() {
        BidiLevels x = Checks.signs();
        x.resolve(0);
        x.clear();
        nothingIsAnswered("after clear of none", x);
    }

    static void askingChangesNothing() {
        BidiLevels x = Checks.withLine();
        Checks.due("all answers, asked twice", Checks.allAnswers(x), Checks.allAnswers(x));
    }

    // Promise 8: paragraph

    static void paragraphRefusesAKThatIsNone() {
        Checks.refused(INDEX, "paragraph(-1, 0)", x -> x.paragraph(-1, 0));
        Checks.refused(INDEX, "paragraph(2, 0)", x -> x.paragraph(2, 0));
        Checks.refused(INDEX, "paragraph(2, 3)", x -> x.paragraph(2, 3));
        Checks.refused(INDEX, "paragraph(the least int, 0)", x -> x.paragraph(LEAST_INT, 0));
        Checks.refused(INDEX, "paragraph(the greatest int, 0)", x -> x.paragraph(GREATEST_INT, 0));
    }

    static void paragraphTakesTheFirstAndTheLast() {
        BidiLevels x = Checks.withLevels();
        int[][] want = {{0, 10, 0, 2}, {10, 11, 1, 1}};
        for (int k = 0; k < 2; k++) {
            for (int what = 0; what < 4; what++) {
                Checks.due("paragraph(" + k + ", " + what + ")", x.paragraph(k, what), want[k][what]);
            }
        }
    }

    static void paragraphRefusesAWhatThatIsNone() {
        Checks.refused(INDEX, "paragraph(0, -1)", x -> x.paragraph(0, -1));
        Checks.refused(INDEX, "paragraph(0, 4)", x -> x.paragraph(0, 4));
        Checks.refused(INDEX, "paragraph(1, the least int)", x -> x.paragraph(1, LEAST_INT));
        Checks.refused(INDEX, "paragraph(1, the greatest int)", x -> x.paragraph(1, GREATEST_INT));
    }

    static void paragraphRefusesAllOfAnEmptyText() {
        BidiLevels x = Checks.resolved("", 2);
        for (int what = 0; what < 4; what++) {
            int asked = what;
            Checks.dueIndex("paragraph(0, " + what + ")", () -> x.paragraph(0, asked));
        }
    }

    static void paragraphsOfATextBeforeAreGone() {
        BidiLevels x = Checks.resolved("a\na\na", 0);
        x.clear();
        Checks.addAll(x, "a\na");
        x.resolve(0);
        Checks.due("paragraph(1, 0)", x.paragraph(1, 0), 2);
        Checks.dueIndex("paragraph(2, 0)", () -> x.paragraph(2, 0));
    }

    static void thereMayBe2000Paragraphs() {
        BidiLevels x = Checks.resolved("\n".repeat(2000), 2);
        Checks.due("paragraphs", x.resolve(1), 2000);
        int[] want = {1999, 2000, 1, 1};
        for (int what = 0; what < 4; what++) {
            Checks.due("paragraph(1999, " + what + ")", x.paragraph(1999, what), want[what]);
        }
        Checks.dueIndex("paragraph(2000, 0)", () -> x.paragraph(2000, 0));
        Checks.due("line(1999, 2000)", x.line(1999, 2000), 1);
        Checks.dueArgument("line(1998, 2000)", () -> x.line(1998, 2000));
    }

    static void aParagraphOfRemovedOnesHadNoSequence() {
        BidiLevels x = Checks.resolved("0ep", 0);
        Checks.due("sequences", x.paragraph(0, 3), 0);
        Checks.due("end", x.paragraph(0, 1), 3);
    }

    // Promises 9, 10, 11: level, kind, match

    static void levelRefusesWhatIsNoPosition() {
        Checks.refused(INDEX, "level(-1)", x -> x.level(-1));
        Checks.refused(INDEX, "level(11)", x -> x.level(11));
        Checks.refused(INDEX, "level(the least int)", x -> x.level(LEAST_INT));
        Checks.refused(INDEX, "level(the greatest int)", x -> x.level(GREATEST_INT));
    }

    static void levelTakesTheFirstAndTheLastPosition() {
        BidiLevels x = Checks.withLevels();
        Checks.due("level(0)", x.level(0), 0);
        Checks.due("level(10)", x.level(10), 1);
    }

    static void kindRefusesWhatIsNoPosition() {
        Checks.refused(INDEX, "kind(-1)", x -> x.kind(-1));
        Checks.refused(INDEX, "kind(11)", x -> x.kind(11));
        Checks.refused(INDEX, "kind(the least int)", x -> x.kind(LEAST_INT));
        Checks.refused(INDEX, "kind(the greatest int)", x -> x.kind(GREATEST_INT));
    }

    static void kindTakesTheFirstAndTheLastPosition() {
        BidiLevels x = Checks.withLevels();
        Checks.due("kind(0)", x.kind(0), 0);
        Checks.due("kind(10)", x.kind(10), 1);
    }

    static void matchRefusesWhatIsNoPosition() {
        Checks.refused(INDEX, "match(-1)", x -> x.match(-1));
        Checks.refused(INDEX, "match(11)", x -> x.match(11));
        Checks.refused(INDEX, "match(the least int)", x -> x.match(LEAST_INT));
        Checks.refused(INDEX, "match(the greatest int)", x -> x.match(GREATEST_INT));
    }

    static void matchTakesTheFirstAndTheLastPosition() {
        Checks.matches("IaP", 2, NONE, 0);
    }

    static void thereIsNoPositionInAnEmptyText() {
        BidiLevels x = Checks.resolved("", 0);
        Checks.dueIndex("level(0)", () -> x.level(0));
        Checks.dueIndex("kind(0)", () -> x.kind(0));
        Checks.dueIndex("match(0)", () -> x.match(0));
    }

    static void positionsOfALongerTextBeforeAreGone() {
        BidiLevels x = Checks.resolved("rrr", 0);
        x.clear();
        Checks.addAll(x, "rr");
        x.resolve(0);
        Checks.due("level(1)", x.level(1), 1);
        Checks.dueIndex("level(2)", () -> x.level(2));
        Checks.dueIndex("kind(2)", () -> x.kind(2));
        Checks.dueIndex("match(2)", () -> x.match(2));
        x.line(0, 2);
        Checks.dueIndex("place(2)", () -> x.place(2));
    }

    static void levelOfWhatIsRemovedIsNone() {
        Checks.levels(0, "EOeop0", "------");
        Checks.levels(1, "EOeop0", "------");
    }

    static void kindOfWhatIsRemovedIsNone() {
        Checks.kinds(0, "EOeop0", "------");
        Checks.kinds(1, "EOeop0", "------");
    }

    static void levelAndKindOfWhatIsNoLongerRemovedAreThere() {
        BidiLevels x = Checks.resolved("0", 0);
        Checks.due("level of BN", x.level(0), NONE);
        x.property('0', '0', 1);
        x.resolve(0);
        Checks.due("level of R", x.level(0), 1);
        Checks.due("kind of R", x.kind(0), 1);
    }

    static void matchOfWhatIsNeitherIsNone() {
        BidiLevels x = Checks.resolved("i" + "arf1+$9,~0\t !EOeop" + "P", 0);
        Checks.due("match(0)", x.match(0), 19);
        for (int i = 1; i < 19; i++) {
            Checks.due("match(" + i + ")", x.match(i), NONE);
        }
        Checks.matches("i\n", NONE, NONE);
    }

    static void matchOfAnIsolateWithoutOneIsNone() {
        Checks.matches("I", NONE);
        Checks.matches("i", NONE);
        Checks.matches("F", NONE);
        Checks.matches("PI", NONE, NONE);
    }

    static void matchOfAPdiThatIsNoMatchIsNone() {
        Checks.matches("P", NONE);
        Checks.matches("IPP", 1, 0, NONE);
    }

    static void matchesOfATextBeforeAreGone() {
        BidiLevels x = Checks.resolved("IP", 0);
        x.property('P', 'P', 0);
        x.resolve(0);
        Checks.due("match(0)", x.match(0), NONE);
        Checks.due("match(1)", x.match(1), NONE);
    }

    // Promise 12: line, in a text with the paragraphs 0 .. 10 and 10 .. 11

    private static void lineRefused(String exception, int from, int to) {
        Checks.refused(exception, "line(" + from + ", " + to + ")", x -> x.line(from, to));
    }

    static void lineRefusesAFromThatIsNoPosition() {
        lineRefused(INDEX, -1, 1);
        lineRefused(INDEX, 11, 11);
        lineRefused(INDEX, LEAST_INT, 1);
        lineRefused(INDEX, GREATEST_INT, 1);
    }

    static void lineTakesTheFirstAndTheLastFrom() {
        BidiLevels x = Checks.withLevels();
        Checks.due("line(0, 1)", x.line(0, 1), 1);
        Checks.due("its position", x.seen(0, 0), 0);
        Checks.due("line(10, 11)", x.line(10, 11), 1);
        Checks.due("its position", x.seen(0, 0), 10);
    }

    static void lineRefusesAToThatIsBehindNoPosition() {
        lineRefused(INDEX, 0, 0);
        lineRefused(INDEX, 0, -1);
        lineRefused(INDEX, 10, 12);
        lineRefused(INDEX, 10, LEAST_INT);
        lineRefused(INDEX, 10, GREATEST_INT);
    }

    static void lineTakesTheLeastAndTheGreatestTo() {
        BidiLevels x = Checks.resolved("ra", 0);
        Checks.due("line(0, 1)", x.line(0, 1), 1);
        Checks.due("line(0, 2)", x.line(0, 2), 2);
        Checks.due("line(1, 2)", x.line(1, 2), 1);
    }

    static void lineRefusesAFromThatIsNotBelowTo() {
        lineRefused(ARGUMENT, 1, 1);
        lineRefused(ARGUMENT, 10, 10);
        lineRefused(ARGUMENT, 2, 1);
        lineRefused(ARGUMENT, 10, 1);
    }

    static void lineTakesAFromJustBelowTo() {
        BidiLevels x = Checks.withLevels();
        for (int from = 0; from < 11; from++) {
            Checks.due("line of the one at " + from, x.line(from, from + 1), from == 5 ? 0 : 1);
        }
    }

    static void lineRefusesTwoParagraphs() {
        lineRefused(ARGUMENT, 9, 11);
        lineRefused(ARGUMENT, 0, 11);
    }

    static void lineTakesAWholeParagraph() {
        BidiLevels x = Checks.resolved("aa\nrr\na", 0);
        Checks.due("line(0, 3)", x.line(0, 3), 3);
        Checks.due("line(3, 6)", x.line(3, 6), 3);
        Checks.due("line(6, 7)", x.line(6, 7), 1);
        Checks.dueArgument("line(0, 4)", () -> x.line(0, 4));
        Checks.dueArgument("line(2, 6)", () -> x.line(2, 6));
        Checks.dueArgument("line(3, 7)", () -> x.line(3, 7));
        Checks.dueArgument("line(5, 7)", () -> x.line(5, 7));
    }

    static void lineThrowsIndexBeforeArgument() {
        lineRefused(INDEX, 9, 12);
        lineRefused(INDEX, 1, 0);
        lineRefused(INDEX, 12, 12);
        lineRefused(INDEX, 12, 3);
        lineRefused(INDEX, -1, -1);
    }

    static void lineRefusesAllOfAnEmptyText() {
        BidiLevels x = Checks.resolved("", 0);
        Checks.dueIndex("line(0, 0)", () -> x.line(0, 0));
        Checks.dueIndex("line(0, 1)", () -> x.line(0, 1));
    }

    static void aRefusedLineLeavesTheLineBefore() {
        BidiLevels x = Checks.resolved("arr\na", 0);
        x.line(0, 3);
        Checks.dueIndex("line(-1, 2)", () -> x.line(-1, 2));
        Checks.due("seen(1, 0) after Index", x.seen(1, 0), 2);
        Checks.dueArgument("line(1, 1)", () -> x.line(1, 1));
        Checks.due("seen(1, 0) after an empty one", x.seen(1, 0), 2);
        Checks.dueArgument("line(2, 5)", () -> x.line(2, 5));
        Checks.due("seen(1, 0) after two paragraphs", x.seen(1, 0), 2);
        Checks.due("place(1)", x.place(1), 2);
    }

    static void aRefusedFirstLineIsNone() {
        BidiLevels x = Checks.resolved("arr\na", 0);
        Checks.dueIndex("line(-1, 2)", () -> x.line(-1, 2));
        Checks.dueArgument("line(1, 1)", () -> x.line(1, 1));
        Checks.dueArgument("line(2, 5)", () -> x.line(2, 5));
        Checks.dueState("seen(0, 0)", () -> x.seen(0, 0));
        Checks.dueState("place(0)", () -> x.place(0));
    }

    static void aLineRefusedByStateIsNoneLater() {
        BidiLevels x = Checks.withText();
        Checks.dueState("line(0, 5)", () -> x.line(0, 5));
        x.resolve(0);
        Checks.dueState("seen(0, 0)", () -> x.seen(0, 0));
    }

    static void lineLeavesTheLevels() {
        BidiLevels x = Checks.resolved("r r ", 0);
        x.line(0, 2);
        Checks.levels("r r after a line that ends in a blank", x, "1110");
        Checks.due("kind(1)", x.kind(1), 1);
    }

    // Promise 13: seen, of a line with the positions 2, 3, 4, 6, 7, 8 (5 is removed)

    static void seenRefusesAKThatIsNone() {
        Checks.refused(INDEX, "seen(-1, 0)", Checks::withLine, x -> x.seen(-1, 0));
        Checks.refused(INDEX, "seen(6, 0)", Checks::withLine, x -> x.seen(6, 0));
        Checks.refused(INDEX, "seen(6, 2)", Checks::withLine, x -> x.seen(6, 2));
        Checks.refused(INDEX, "seen(the least int, 0)", Checks::withLine, x -> x.seen(LEAST_INT, 0));
        Checks.refused(INDEX, "seen(the greatest int, 0)", Checks::withLine, x -> x.seen(GREATEST_INT, 0));
    }

    static void seenTakesTheFirstAndTheLast() {
        BidiLevels x = Checks.withLine();
        int[] first = {2, 1, 'r'};
        int[] last = {8, 0, 'P'};
        for (int what = 0; what < 3; what++) {
            Checks.due("seen(0, " + what + ")", x.seen(0, what), first[what]);
            Checks.due("seen(5, " + what + ")", x.seen(5, what), last[what]);
        }
    }

    static void seenRefusesAWhatThatIsNone() {
        Checks.refused(INDEX, "seen(0, -1)", Checks::withLine, x -> x.seen(0, -1));
        Checks.refused(INDEX, "seen(0, 3)", Checks::withLine, x -> x.seen(0, 3));
        Checks.refused(INDEX, "seen(5, the least int)", Checks::withLine, x -> x.seen(5, LEAST_INT));
        Checks.refused(INDEX, "seen(5, the greatest int)", Checks::withLine, x -> x.seen(5, GREATEST_INT));
    }

    static void seenRefusesAllOfALineOfRemovedOnes() {
        BidiLevels x = Checks.withLevels();
        Checks.due("line(5, 6)", x.line(5, 6), 0);
        Checks.dueIndex("seen(0, 0)", () -> x.seen(0, 0));
        Checks.dueIndex("seen(0, 3)", () -> x.seen(0, 3));
    }

    static void seenOfALongerLineBeforeIsGone() {
        BidiLevels x = Checks.resolved("rrr", 0);
        x.line(0, 3);
        x.line(1, 3);
        Checks.due("seen(1, 0)", x.seen(1, 0), 1);
        Checks.dueIndex("seen(2, 0)", () -> x.seen(2, 0));
    }

    static void seenThrowsStateWithoutALine() {
        Checks.refused(STATE, "seen(0, 0)", Checks::withLevels, x -> x.seen(0, 0));
        Checks.refused(STATE, "seen(-1, 3)", Checks::withLevels, x -> x.seen(-1, 3));
    }

    static void seenThrowsStateWhenResolvedSinceTheLine() {
        BidiLevels x = Checks.withLine();
        x.resolve(2);
        Checks.dueState("seen(0, 0)", () -> x.seen(0, 0));
        Checks.dueState("seen(-1, 3)", () -> x.seen(-1, 3));
        x.line(2, 9);
        Checks.due("seen(0, 0) of a new line", x.seen(0, 0), 2);
    }

    static void seenThrowsStateWhenToldAndResolvedSinceTheLine() {
        BidiLevels x = Checks.withLine();
        x.add(NONE, 0, 0, 0, 0);
        x.resolve(2);
        Checks.dueState("seen(0, 0)", () -> x.seen(0, 0));
        Checks.dueState("place(0)", () -> x.place(0));
    }

    static void seenThrowsStateWhenClearedAndResolvedSinceTheLine() {
        BidiLevels x = Checks.withLine();
        x.clear();
        x.resolve(2);
        Checks.dueState("seen(0, 0)", () -> x.seen(0, 0));
        Checks.dueState("place(0)", () -> x.place(0));
    }

    // Promise 14: place

    static void placeRefusesWhatIsNoPosition() {
        Checks.refused(INDEX, "place(-1)", Checks::withLine, x -> x.place(-1));
        Checks.refused(INDEX, "place(11)", Checks::withLine, x -> x.place(11));
        Checks.refused(INDEX, "place(the least int)", Checks::withLine, x -> x.place(LEAST_INT));
        Checks.refused(INDEX, "place(the greatest int)", Checks::withLine, x -> x.place(GREATEST_INT));
    }

    static void placeTakesTheFirstAndTheLastPosition() {
        BidiLevels x = Checks.resolved("rr", 0);
        x.line(0, 2);
        Checks.due("place(0)", x.place(0), 1);
        Checks.due("place(1)", x.place(1), 0);
    }

    static void placeIsNoneOutsideOfTheLine() {
        BidiLevels x = Checks.withLine();
        int[] outside = {0, 1, 9, 10};
        for (int position : outside) {
            Checks.due("place(" + position + ")", x.place(position), NONE);
        }
        Checks.due("place(2), the line's first", x.place(2), 0);
        Checks.due("place(8), the line's last", x.place(8), 5);
    }

    static void placeIsNoneForWhatIsRemoved() {
        Checks.due("place(5)", Checks.withLine().place(5), NONE);
        BidiLevels x = Checks.withLevels();
        x.line(5, 6);
        Checks.due("place(5) in a line of it alone", x.place(5), NONE);
    }

    static void placesOfALineBeforeAreGone() {
        BidiLevels x = Checks.resolved("aaaa", 0);
        x.line(0, 4);
        x.line(1, 3);
        int[] want = {NONE, 0, 1, NONE};
        for (int i = 0; i < 4; i++) {
            Checks.due("place(" + i + ")", x.place(i), want[i]);
        }
    }

    static void placeThrowsStateWithoutALine() {
        Checks.refused(STATE, "place(0)", Checks::withLevels, x -> x.place(0));
        Checks.refused(STATE, "place(-1)", Checks::withLevels, x -> x.place(-1));
    }

    static void placeThrowsStateWhenResolvedSinceTheLine() {
        BidiLevels x = Checks.withLine();
        x.resolve(2);
        Checks.dueState("place(0)", () -> x.place(0));
        Checks.dueState("place(-1)", () -> x.place(-1));
    }
}
