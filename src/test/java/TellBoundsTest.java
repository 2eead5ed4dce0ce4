import java.util.function.Consumer;

/** The boundary cases of promises 1 to 7, of what the calls tell, and of the text and classes in "Terms". */
public final class TellBoundsTest {
    private static final int NONE = Checks.NONE;
    private static final int LAST = Checks.LAST;
    private static final int LEAST_INT = Checks.LEAST_INT;
    private static final int GREATEST_INT = Checks.GREATEST_INT;
    private static final String ARGUMENT = Checks.ARGUMENT;
    private static final String STATE = Checks.STATE;
    /** Nothing but ON and brackets differ in these texts, so that a pair tells whether it is known. */
    private static final String PAIR_TEXT = "r<r>a";

    public static void main(String[] args) {
        Checks.runTests(TellBoundsTest.class);
    }

    private static int addOne(BidiLevels x, int character) {
        return x.add(character, NONE, NONE, NONE, NONE);
    }

    private static int addSame(BidiLevels x, int character, int times) {
        int count = 0;
        for (int done = 0; done < times; done += 5) {
            int left = times - done;
            count = x.add(character, left > 1 ? character : NONE, left > 2 ? character : NONE,
                    left > 3 ? character : NONE, left > 4 ? character : NONE);
        }
        return count;
    }

    /** The class of one character alone, with base 1, where L, R and numbers stay what they are. */
    private static int kindOf(BidiLevels x, int character) {
        x.clear();
        addOne(x, character);
        x.resolve(1);
        return x.kind(0);
    }

    // What it is; the public face

    static void noneIsMinusOne() {
        Checks.due("NONE", BidiLevels.NONE, -1);
    }

    static void theLastOf512CallsAnswers() {
        BidiLevels x = new BidiLevels();
        for (int i = 0; i < 100; i++) {
            x.property(i, LAST, i == 99 ? 1 : 0);
        }
        for (int i = 0; i < 40; i++) {
            x.bracket(1000 + i, 2000 + i);
            x.mirror(1000 + i, 2000 + i);
        }
        for (int i = 0; i < 328; i++) {
            x.add(1, 99, 100, 1000, LAST);
        }
        Checks.due("call 509", x.resolve(2), 1);
        Checks.due("call 510", x.line(1600, 1640), 40);
        Checks.due("call 511", x.level(1639), 1);
        Checks.due("call 512", x.seen(2, 2), 2000);
    }

    static void refusedCallsAreCallsToo() {
        BidiLevels x = Checks.resolved("ra", 0);
        int told = Checks.SIGNS.length() + Checks.ON_SIGNS.length() + 4 + 2;
        for (int i = told; i < 511; i++) {
            Checks.dueIndex("level(-1)", () -> x.level(-1));
        }
        Checks.due("call 512", x.level(0), 1);
    }

    // Terms: the text

    static void theTextTakes2000Characters() {
        BidiLevels x = new BidiLevels();
        Checks.due("2000 characters", addSame(x, 7, 2000), 2000);
        Checks.due("resolve(1)", x.resolve(1), 1);
        Checks.due("its end", x.paragraph(0, 1), 2000);
        Checks.due("the last one's level", x.level(1999), 2);
        Checks.due("the last one's class", x.kind(1999), 0);
        Checks.due("the last one's match", x.match(1999), NONE);
        Checks.due("line(0, 2000)", x.line(0, 2000), 2000);
        Checks.due("the last one's place", x.place(1999), 1999);
        Checks.due("what is seen last", x.seen(1999, 0), 1999);
        Checks.dueIndex("level(2000)", () -> x.level(2000));
        Checks.dueIndex("line(0, 2001)", () -> x.line(0, 2001));
    }

    static void positionsBeginWith0() {
        BidiLevels x = new BidiLevels();
        x.property(8, 8, 1);
        x.add(8, 7, NONE, NONE, NONE);
        x.resolve(0);
        Checks.due("level(0)", x.level(0), 1);
        Checks.due("level(1)", x.level(1), 0);
    }

    static void charactersAre0To1114111() {
        BidiLevels x = new BidiLevels();
        Checks.due("the least and the greatest one", x.add(0, LAST, NONE, NONE, NONE), 2);
        x.property(0, 0, 1);
        x.property(LAST, LAST, 2);
        x.resolve(0);
        Checks.levels("the least and the greatest one", x, "11");
        x.line(0, 2);
        Checks.due("the greatest one seen", x.seen(0, 2), LAST);
        Checks.due("the least one seen", x.seen(1, 2), 0);
    }

    // Terms: classes told by ranges

    static void aRangeHoldsItsBoundsAndNoMore() {
        BidiLevels x = new BidiLevels();
        x.property(50, 60, 1);
        x.add(49, 50, 55, 60, 61);
        x.resolve(0);
        Checks.levels("the bounds of a range", x, "01110");
    }

    static void aRangeToldBehindTheTextHoldsItsBoundsAndNoMore() {
        BidiLevels x = new BidiLevels();
        x.add(49, 50, 55, 60, 61);
        x.property(50, 60, 1);
        x.resolve(0);
        Checks.levels("the bounds of a range told behind the text", x, "01110");
    }

    static void aRangeToldBehindAFullTextHoldsAllOfIt() {
        BidiLevels x = new BidiLevels();
        addSame(x, 7, 2000);
        Checks.taken("property(7, 7, 1)", () -> x.property(7, 7, 1));
        x.resolve(0);
        Checks.due("the first one's level", x.level(0), 1);
        Checks.due("the last one's level", x.level(1999), 1);
    }

    static void ofSeveralRangesTheOneToldLastCounts() {
        BidiLevels x = new BidiLevels();
        x.property(50, 60, 1);
        x.property(55, 70, 6);
        x.property(58, 58, 3);
        x.add(54, 55, 57, 58, 59);
        x.add(60, 61, 70, 71, NONE);
        x.resolve(1);
        Checks.kinds("ranges that overlap", x, "166366660");
    }

    static void aWideRangeToldLastCountsForAllInIt() {
        BidiLevels x = new BidiLevels();
        x.property(55, 55, 3);
        x.property(0, LAST, 1);
        Checks.due("a character of both", kindOf(x, 55), 1);
    }

    static void theSameRangeCanBeToldAgain() {
        BidiLevels x = new BidiLevels();
        x.property(55, 55, 1);
        x.property(55, 55, 6);
        Checks.due("a class told again", kindOf(x, 55), 6);
        x.property(55, 55, 0);
        Checks.due("L told again", kindOf(x, 55), 0);
    }

    static void rangesCountForTextToldBeforeAndBehindThem() {
        BidiLevels x = new BidiLevels();
        addOne(x, 55);
        x.property(55, 55, 1);
        addOne(x, 55);
        x.resolve(0);
        Checks.levels("text before and behind the range", x, "11");
        x.property(55, 55, 6);
        addOne(x, 55);
        x.resolve(0);
        Checks.levels("text before and behind the second range", x, "222");
    }

    static void withoutARangeItIsL() {
        BidiLevels x = new BidiLevels();
        x.property(50, 60, 1);
        x.property(62, LAST, 1);
        Checks.due("a character between ranges", kindOf(x, 61), 0);
        Checks.due("a character before them", kindOf(x, 0), 0);
    }

    // Promise 1: a new object

    static void aNewObjectHasNoText() {
        Checks.due("clear", new BidiLevels().clear(), 0);
        Checks.due("resolve", new BidiLevels().resolve(2), 0);
        BidiLevels x = new BidiLevels();
        Checks.due("the first one added", addOne(x, 5), 1);
    }

    static void aNewObjectIsNotResolved() {
        BidiLevels x = new BidiLevels();
        Checks.dueState("level", () -> x.level(0));
        Checks.dueState("kind", () -> x.kind(0));
        Checks.dueState("match", () -> x.match(0));
        Checks.dueState("paragraph", () -> x.paragraph(0, 0));
        Checks.dueState("line", () -> x.line(0, 1));
        Checks.dueState("seen", () -> x.seen(0, 0));
        Checks.dueState("place", () -> x.place(0));
    }

    static void inANewObjectAllCharactersAreL() {
        int[] some = {0, 1, 10, ' ', '1', 0x5D0, 0x202B, 0x2067, 65535, 65536, LAST};
        for (int c : some) {
            Checks.due("the class of " + c, kindOf(new BidiLevels(), c), 0);
        }
        BidiLevels x = new BidiLevels();
        x.add('a', 10, 'b', NONE, NONE);
        Checks.due("paragraphs, without a B", x.resolve(0), 1);
    }

    static void aNewObjectHasNoBrackets() {
        BidiLevels x = new BidiLevels();
        x.property('r', 'r', 1);
        x.property('(', ')', 13);
        Checks.addAll(x, "r(r)a");
        x.resolve(0);
        Checks.levels("text without brackets", x, "11100");
        Checks.taken("bracket((, ))", () -> x.bracket('(', ')'));
    }

    static void aNewObjectHasNoMirrors() {
        BidiLevels x = new BidiLevels();
        x.property('(', ')', 1);
        Checks.addAll(x, "()");
        x.resolve(0);
        Checks.shown("text without mirrors", x, 0, 2, ")(", "11");
        Checks.taken("mirror((, ))", () -> x.mirror('(', ')'));
    }

    static void objectsAreApart() {
        BidiLevels one = Checks.withLine();
        String before = Checks.allAnswers(one);
        BidiLevels other = new BidiLevels();
        other.property(0, LAST, 1);
        other.bracket(1, 2);
        other.mirror('(', '<');
        addSame(other, 7, 20);
        other.resolve(1);
        other.line(3, 9);
        Checks.due("the first object", Checks.allAnswers(one), before);
        Checks.due("the second object's class of a letter", other.kind(0), 1);
        Checks.due("the second object's text", addOne(other, 1), 21);
    }

    // Promise 2: property

    static void propertyRefusesAFirstThatIsNoCharacter() {
        Checks.refusedAlways(ARGUMENT, "property(-1, 5, 1)", x -> x.property(-1, 5, 1));
        Checks.refusedAlways(ARGUMENT, "property(-1, -1, 1)", x -> x.property(-1, -1, 1));
        Checks.refusedAlways(ARGUMENT, "property(the least int, 'a', 1)", x -> x.property(LEAST_INT, 'a', 1));
        Checks.refusedAlways(ARGUMENT, "property(1114112, 1114112, 1)", x -> x.property(LAST + 1, LAST + 1, 1));
    }

    static void propertyTakesTheFirst0() {
        BidiLevels x = new BidiLevels();
        Checks.taken("property(0, 5, 1)", () -> x.property(0, 5, 1));
        Checks.due("the class of 0", kindOf(x, 0), 1);
    }

    static void propertyTakesTheFirst1114111() {
        BidiLevels x = new BidiLevels();
        Checks.taken("property(1114111, 1114111, 1)", () -> x.property(LAST, LAST, 1));
        Checks.due("the class of 1114111", kindOf(x, LAST), 1);
        Checks.due("the class of 1114110", kindOf(x, LAST - 1), 0);
    }

    static void propertyRefusesALastThatIsNoCharacter() {
        Checks.refusedAlways(ARGUMENT, "property(5, 1114112, 1)", x -> x.property(5, LAST + 1, 1));
        Checks.refusedAlways(ARGUMENT, "property('a', the greatest int, 1)", x -> x.property('a', GREATEST_INT, 1));
        Checks.refusedAlways(ARGUMENT, "property(0, -1, 1)", x -> x.property(0, -1, 1));
    }

    static void propertyTakesTheLast1114111() {
        BidiLevels x = new BidiLevels();
        Checks.taken("property(5, 1114111, 1)", () -> x.property(5, LAST, 1));
        Checks.due("the class of 1114111", kindOf(x, LAST), 1);
        Checks.due("the class of 4", kindOf(x, 4), 0);
    }

    static void propertyTakesTheLast0() {
        BidiLevels x = new BidiLevels();
        Checks.taken("property(0, 0, 1)", () -> x.property(0, 0, 1));
        Checks.due("the class of 0", kindOf(x, 0), 1);
        Checks.due("the class of 1", kindOf(x, 1), 0);
    }

    static void propertyRefusesAFirstAboveLast() {
        Checks.refusedAlways(ARGUMENT, "property('b', 'a', 1)", x -> x.property('b', 'a', 1));
        Checks.refusedAlways(ARGUMENT, "property(1114111, 0, 1)", x -> x.property(LAST, 0, 1));
    }

    static void propertyTakesAFirstThatIsLast() {
        BidiLevels x = new BidiLevels();
        Checks.taken("property('a', 'a', 1)", () -> x.property('a', 'a', 1));
        Checks.due("the class of a", kindOf(x, 'a'), 1);
    }

    static void propertyRefusesAClassBelow0() {
        Checks.refusedAlways(ARGUMENT, "property('a', 'a', -1)", x -> x.property('a', 'a', -1));
        Checks.refusedAlways(ARGUMENT, "property('a', 'a', the least int)", x -> x.property('a', 'a', LEAST_INT));
    }

    static void propertyTakesTheClass0() {
        BidiLevels x = new BidiLevels();
        x.property('a', 'a', 1);
        Checks.taken("property('a', 'a', 0)", () -> x.property('a', 'a', 0));
        Checks.due("the class of a", kindOf(x, 'a'), 0);
    }

    static void propertyTakesTheClass22() {
        BidiLevels x = new BidiLevels();
        x.property('i', 'i', 20);
        Checks.taken("property('P', 'P', 22)", () -> x.property('P', 'P', 22));
        Checks.addAll(x, "iP");
        x.resolve(0);
        Checks.due("the match of an isolate", x.match(0), 1);
    }

    static void propertyRefusesTheClass23() {
        Checks.refusedAlways(ARGUMENT, "property('a', 'a', 23)", x -> x.property('a', 'a', 23));
        Checks.refusedAlways(ARGUMENT, "property('a', 'a', the greatest int)", x -> x.property('a', 'a', GREATEST_INT));
    }

    private static BidiLevels withRanges(int told) {
        BidiLevels x = Checks.withLine();
        for (int i = Checks.SIGNS.length() + Checks.ON_SIGNS.length(); i < told; i++) {
            x.property(500, 500, 1);
        }
        x.resolve(2);
        x.line(2, 9);
        return x;
    }

    static void propertyTakesTheHundredthRange() {
        BidiLevels x = withRanges(99);
        Checks.taken("the 100th range", () -> x.property(600, 600, 1));
        Checks.due("the class of 600", kindOf(x, 600), 1);
    }

    static void propertyRefusesTheRange101() {
        Checks.refused(STATE, "the 101st range", () -> withRanges(100), x -> x.property('a', 'a', 1));
        Checks.refused(STATE, "the 101st range, one told before", () -> withRanges(100), x -> x.property(500, 500, 1));
    }

    static void propertyRefusesWrongOnesFirstWhenFull() {
        Checks.refused(ARGUMENT, "a wrong first", () -> withRanges(100), x -> x.property(-1, 5, 1));
        Checks.refused(ARGUMENT, "a wrong last", () -> withRanges(100), x -> x.property(5, LAST + 1, 1));
        Checks.refused(ARGUMENT, "first above last", () -> withRanges(100), x -> x.property(6, 5, 1));
        Checks.refused(ARGUMENT, "class -1", () -> withRanges(100), x -> x.property(5, 5, -1));
        Checks.refused(ARGUMENT, "class 23", () -> withRanges(100), x -> x.property(5, 5, 23));
    }

    static void refusedRangesAreNotCounted() {
        BidiLevels x = withRanges(99);
        for (int i = 0; i < 5; i++) {
            Checks.dueArgument("a wrong class", () -> x.property(600, 600, 23));
            Checks.dueArgument("first above last", () -> x.property(601, 600, 1));
        }
        Checks.taken("the 100th range", () -> x.property(600, 600, 1));
        Checks.dueState("the 101st range", () -> x.property(600, 600, 1));
    }

    static void rangesStayWhenTheTextIsCleared() {
        BidiLevels x = withRanges(100);
        x.clear();
        Checks.dueState("the 101st range", () -> x.property(600, 600, 1));
        Checks.due("the class of 500", kindOf(x, 500), 1);
        Checks.dueState("the 101st range after resolving", () -> x.property(600, 600, 1));
    }

    // Promises 3 and 4: bracket, mirror. What both say is told once, for each of them

    private interface Telling {
        void pair(BidiLevels x, int one, int other);
    }

    private static void pairRefused(String exception, Telling telling, int one, int other) {
        Checks.refusedAlways(exception, "the pair " + one + ", " + other, x -> telling.pair(x, one, other));
    }

    private static void wrongFirstOfPair(Telling telling) {
        pairRefused(ARGUMENT, telling, -1, 5);
        pairRefused(ARGUMENT, telling, LEAST_INT, 5);
        pairRefused(ARGUMENT, telling, LAST + 1, 5);
        pairRefused(ARGUMENT, telling, GREATEST_INT, 5);
    }

    private static void wrongSecondOfPair(Telling telling) {
        pairRefused(ARGUMENT, telling, 5, -1);
        pairRefused(ARGUMENT, telling, 5, LEAST_INT);
        pairRefused(ARGUMENT, telling, 5, LAST + 1);
        pairRefused(ARGUMENT, telling, 5, GREATEST_INT);
    }

    static void bracketRefusesAnOpeningOneThatIsNoCharacter() {
        wrongFirstOfPair(BidiLevels::bracket);
    }

    static void bracketRefusesAClosingOneThatIsNoCharacter() {
        wrongSecondOfPair(BidiLevels::bracket);
    }

    static void mirrorRefusesAOneThatIsNoCharacter() {
        wrongFirstOfPair(BidiLevels::mirror);
    }

    static void mirrorRefusesAnOtherThatIsNoCharacter() {
        wrongSecondOfPair(BidiLevels::mirror);
    }

    private static void bracketTaken(int opening, int closing) {
        BidiLevels x = new BidiLevels();
        x.property('r', 'r', 1);
        x.property(opening, opening, 13);
        x.property(closing, closing, 13);
        x.add('r', opening, 'r', closing, 'a');
        Checks.taken("bracket(" + opening + ", " + closing + ")", () -> x.bracket(opening, closing));
        x.resolve(0);
        Checks.levels("a text with the brackets " + opening + ", " + closing, x, "11110");
    }

    static void bracketTakes0And1114111() {
        bracketTaken(0, LAST);
        bracketTaken(LAST, 0);
    }

    static void bracketTakesNeighbours() {
        bracketTaken(5, 6);
        bracketTaken(6, 5);
    }

    private static void mirrorTaken(int one, int other) {
        BidiLevels x = new BidiLevels();
        x.property(one, one, 1);
        x.property(other, other, 1);
        x.add(one, other, NONE, NONE, NONE);
        Checks.taken("mirror(" + one + ", " + other + ")", () -> x.mirror(one, other));
        x.resolve(0);
        x.line(0, 2);
        Checks.due("as what " + other + " is seen", x.seen(0, 2), one);
        Checks.due("as what " + one + " is seen", x.seen(1, 2), other);
    }

    static void mirrorTakes0And1114111() {
        mirrorTaken(0, LAST);
        mirrorTaken(LAST, 0);
    }

    static void mirrorTakesNeighbours() {
        mirrorTaken(5, 6);
        mirrorTaken(6, 5);
    }

    private static void sameOfPair(Telling telling) {
        pairRefused(ARGUMENT, telling, 5, 5);
        pairRefused(ARGUMENT, telling, 0, 0);
        pairRefused(ARGUMENT, telling, LAST, LAST);
    }

    static void bracketRefusesTheSame() {
        sameOfPair(BidiLevels::bracket);
    }

    static void mirrorRefusesTheSame() {
        sameOfPair(BidiLevels::mirror);
    }

    private static void knownOfPair(Telling telling, int one, int other) {
        int[][] pairs = {{one, 5}, {other, 5}, {5, one}, {5, other}, {one, other}, {other, one}};
        for (int[] pair : pairs) {
            Checks.refused(ARGUMENT, "the pair " + pair[0] + ", " + pair[1], x -> telling.pair(x, pair[0], pair[1]));
            Checks.refused(ARGUMENT, "the pair " + pair[0] + ", " + pair[1] + " (not resolved)", Checks::withText,
                    x -> telling.pair(x, pair[0], pair[1]));
        }
    }

    static void bracketRefusesWhatIsABracketAlready() {
        knownOfPair(BidiLevels::bracket, '(', ')');
        knownOfPair(BidiLevels::bracket, '[', ']');
    }

    static void mirrorRefusesWhatHasAMirrorAlready() {
        knownOfPair(BidiLevels::mirror, '(', ')');
        knownOfPair(BidiLevels::mirror, '<', '>');
    }

    private static void refusedPairMakesNone(Telling telling) {
        BidiLevels x = Checks.signs();
        Checks.dueArgument("a pair with (", () -> telling.pair(x, '(', 5));
        Checks.dueArgument("a pair with )", () -> telling.pair(x, 6, ')'));
        Checks.dueArgument("the same", () -> telling.pair(x, 5, 5));
        Checks.dueArgument("no character", () -> telling.pair(x, 6, -1));
        Checks.taken("the pair 5, 6", () -> telling.pair(x, 5, 6));
    }

    static void aRefusedBracketIsNone() {
        refusedPairMakesNone(BidiLevels::bracket);
    }

    static void aRefusedMirrorIsNone() {
        refusedPairMakesNone(BidiLevels::mirror);
    }

    static void bracketsMayHaveMirrorsAndMirrorsBeBrackets() {
        BidiLevels x = Checks.signs();
        Checks.taken("bracket(<, >)", () -> x.bracket('<', '>'));
        Checks.taken("mirror([, ])", () -> x.mirror('[', ']'));
        Checks.taken("bracket(5, 6)", () -> x.bracket(5, 6));
        Checks.taken("mirror(6, 7)", () -> x.mirror(6, 7));
    }

    private static BidiLevels withPairs(Telling telling, int told) {
        BidiLevels x = Checks.withLine();
        for (int i = 2; i < told; i++) {
            telling.pair(x, 1000 + i, 2000 + i);
        }
        x.resolve(2);
        x.line(2, 9);
        return x;
    }

    static void bracketTakesTheFortiethPair() {
        BidiLevels x = withPairs(BidiLevels::bracket, 39);
        Checks.taken("the 40th pair", () -> x.bracket('<', '>'));
        x.clear();
        Checks.addAll(x, PAIR_TEXT);
        x.resolve(0);
        Checks.levels("a text with the 40th brackets", x, "11110");
    }

    static void mirrorTakesTheFortiethPair() {
        BidiLevels x = withPairs(BidiLevels::mirror, 39);
        Checks.taken("the 40th pair", () -> x.mirror('[', 'r'));
        x.clear();
        Checks.addAll(x, "r[r");
        x.resolve(0);
        Checks.shown("text with the 40th mirrors", x, 0, 3, "[r[", "111");
    }

    private static void fullPairs(Telling telling) {
        Checks.refused(STATE, "the 41st pair", () -> withPairs(telling, 40), x -> telling.pair(x, 'a', 'r'));
        Checks.refused(STATE, "the 41st pair, of the bounds", () -> withPairs(telling, 40),
                x -> telling.pair(x, 0, LAST));
    }

    static void bracketRefusesThePair41() {
        fullPairs(BidiLevels::bracket);
    }

    static void mirrorRefusesThePair41() {
        fullPairs(BidiLevels::mirror);
    }

    private static void wrongPairsWhenFull(Telling telling) {
        int[][] pairs = {{-1, 5}, {5, -1}, {LAST + 1, 5}, {5, LAST + 1}, {5, 5}, {'(', 5}, {5, ')'}, {2039, 5}};
        for (int[] pair : pairs) {
            Checks.refused(ARGUMENT, "the pair " + pair[0] + ", " + pair[1], () -> withPairs(telling, 40),
                    x -> telling.pair(x, pair[0], pair[1]));
        }
    }

    static void bracketRefusesWrongOnesFirstWhenFull() {
        wrongPairsWhenFull(BidiLevels::bracket);
    }

    static void mirrorRefusesWrongOnesFirstWhenFull() {
        wrongPairsWhenFull(BidiLevels::mirror);
    }

    private static void refusedPairsAreNotCounted(Telling telling) {
        BidiLevels x = withPairs(telling, 39);
        for (int i = 0; i < 5; i++) {
            Checks.dueArgument("a pair with (", () -> telling.pair(x, '(', 5));
            Checks.dueArgument("the same", () -> telling.pair(x, 5, 5));
        }
        Checks.taken("the 40th pair", () -> telling.pair(x, 5, 6));
        Checks.dueState("the 41st pair", () -> telling.pair(x, 7, 8));
    }

    static void refusedBracketsAreNotCounted() {
        refusedPairsAreNotCounted(BidiLevels::bracket);
    }

    static void refusedMirrorsAreNotCounted() {
        refusedPairsAreNotCounted(BidiLevels::mirror);
    }

    static void bracketsAndMirrorsAreCountedApart() {
        BidiLevels x = withPairs(BidiLevels::bracket, 40);
        Checks.taken("the third pair of mirrors", () -> x.mirror(5, 6));
        BidiLevels y = withPairs(BidiLevels::mirror, 40);
        Checks.taken("the third pair of brackets", () -> y.bracket(5, 6));
    }

    static void pairsStayWhenTheTextIsCleared() {
        BidiLevels x = withPairs(BidiLevels::bracket, 40);
        x.clear();
        Checks.dueState("the 41st pair of brackets", () -> x.bracket(5, 6));
        BidiLevels y = withPairs(BidiLevels::mirror, 40);
        y.clear();
        Checks.dueState("the 41st pair of mirrors", () -> y.mirror(5, 6));
    }

    // Promise 5: add

    static void addTakesThoseBeforeTheFirstNone() {
        Checks.due("five", new BidiLevels().add(1, 2, 3, 4, 5), 5);
        Checks.due("four", new BidiLevels().add(1, 2, 3, 4, NONE), 4);
        Checks.due("three", new BidiLevels().add(1, 2, 3, NONE, 5), 3);
        Checks.due("two", new BidiLevels().add(1, 2, NONE, 4, NONE), 2);
        Checks.due("one", new BidiLevels().add(1, NONE, 3, 4, 5), 1);
        Checks.due("none", new BidiLevels().add(NONE, 2, 3, 4, 5), 0);
    }

    static void addPutsThemInTheirOrderBehindTheText() {
        BidiLevels x = Checks.signs();
        x.add('a', 'r', NONE, 'r', 'r');
        x.add('9', 'r', 'a', '9', 'r');
        x.resolve(0);
        Checks.levels("the characters", x, "0121021");
    }

    static void addLooksAtNothingBehindTheFirstNone() {
        BidiLevels x = new BidiLevels();
        Checks.due("none", x.add(NONE, -2, LAST + 1, LEAST_INT, GREATEST_INT), 0);
        Checks.due("one", x.add(5, NONE, -2, LAST + 1, LEAST_INT), 1);
        Checks.due("four", x.add(5, 6, 7, 8, NONE), 5);
    }

    private static Consumer<BidiLevels> adding(int place, int wrong) {
        int[] c = {'r', 'r', 'r', 'r', 'r'};
        c[place] = wrong;
        return x -> x.add(c[0], c[1], c[2], c[3], c[4]);
    }

    static void addRefusesWhatIsNoCharacter() {
        int[] wrong = {-2, LAST + 1, LEAST_INT, GREATEST_INT};
        for (int place = 0; place < 5; place++) {
            for (int one : wrong) {
                Checks.refusedAlways(ARGUMENT, "add with " + one + " at " + place, adding(place, one));
            }
        }
        Checks.refusedAlways(ARGUMENT, "a wrong one before NONE", x -> x.add('r', -2, NONE, 'r', 'r'));
    }

    static void addTakesTheLeastAndTheGreatestCharacter() {
        BidiLevels x = new BidiLevels();
        Checks.due("0 at each place", x.add(0, 0, 0, 0, 0), 5);
        Checks.due("1114111 at each place", x.add(LAST, LAST, LAST, LAST, LAST), 10);
    }

    static void addTakesUpTo2000() {
        for (int more = 1; more <= 5; more++) {
            BidiLevels x = new BidiLevels();
            addSame(x, 7, 2000 - more);
            Checks.due("up to 2000 with " + more, addSame(x, 7, more), 2000);
        }
    }

    static void addRefusesMoreThan2000() {
        for (int more = 1; more <= 5; more++) {
            BidiLevels x = new BidiLevels();
            int count = 2001 - more;
            int some = more;
            addSame(x, 7, count);
            x.resolve(1);
            x.line(0, 3);
            Checks.dueState("up to 2001 with " + more, () -> addSame(x, 8, some));
            Checks.due("it leaves the levels", x.level(count - 1), 2);
            Checks.due("it leaves the line", x.seen(2, 0), 2);
            Checks.dueIndex("it leaves the text", () -> x.level(count));
            Checks.due("it leaves the count", x.add(NONE, 7, 7, 7, 7), count);
        }
    }

    static void addTakesNoneMoreAt2000() {
        BidiLevels x = new BidiLevels();
        addSame(x, 7, 2000);
        x.resolve(0);
        Checks.due("none", x.add(NONE, 7, 7, 7, 7), 2000);
        Checks.dueState("the text is told anew by that", () -> x.level(0));
    }

    static void addRefusesWrongOnesFirstWhenFull() {
        BidiLevels x = new BidiLevels();
        addSame(x, 7, 1998);
        x.resolve(1);
        Checks.dueArgument("three, the last one wrong", () -> x.add(7, 7, -2, NONE, 7));
        Checks.dueArgument("three, the first one wrong", () -> x.add(LAST + 1, 7, 7, NONE, 7));
        Checks.dueArgument("five, the last one wrong", () -> x.add(7, 7, 7, 7, -2));
        Checks.dueState("three, a wrong one behind NONE", () -> x.add(7, 7, 7, NONE, -2));
        Checks.due("it leaves the levels", x.level(1997), 2);
        Checks.due("two", x.add(7, 7, NONE, -2, -2), 2000);
        Checks.dueArgument("one that is wrong", () -> addOne(x, -2));
    }

    static void addTellsTheTextAnewAlsoByNone() {
        BidiLevels x = Checks.withLine();
        x.add(NONE, NONE, NONE, NONE, NONE);
        Checks.dueState("level after none", () -> x.level(0));
        Checks.dueState("seen after none", () -> x.seen(0, 0));
        BidiLevels empty = new BidiLevels();
        empty.resolve(0);
        empty.add(NONE, NONE, NONE, NONE, NONE);
        Checks.dueState("paragraph after none in an empty text", () -> empty.paragraph(0, 0));
    }

    // Promise 6: clear

    static void clearAnswersHowManyThereWere() {
        BidiLevels x = new BidiLevels();
        Checks.due("of none", x.clear(), 0);
        addOne(x, 7);
        Checks.due("of one", x.clear(), 1);
        Checks.due("of none again", x.clear(), 0);
        addSame(x, 7, 2000);
        Checks.due("of 2000", x.clear(), 2000);
        Checks.due("of none at last", x.clear(), 0);
    }

    static void clearEmptiesTheText() {
        BidiLevels x = Checks.withLine();
        x.clear();
        Checks.due("paragraphs", x.resolve(2), 0);
        Checks.dueIndex("level(0)", () -> x.level(0));
        Checks.dueIndex("paragraph(0, 0)", () -> x.paragraph(0, 0));
        Checks.dueIndex("line(0, 1)", () -> x.line(0, 1));
        Checks.dueState("seen(0, 0)", () -> x.seen(0, 0));
        Checks.due("the first one added", addOne(x, 'r'), 1);
        x.resolve(0);
        Checks.due("its level", x.level(0), 1);
        Checks.dueIndex("level(1)", () -> x.level(1));
    }

    static void clearMakesRoomFor2000() {
        BidiLevels x = new BidiLevels();
        addSame(x, 7, 2000);
        x.clear();
        Checks.due("five more", x.add(1, 2, 3, 4, 5), 5);
    }

    static void clearTellsTheTextAnew() {
        BidiLevels x = Checks.withLine();
        x.clear();
        Checks.dueState("level", () -> x.level(0));
        Checks.dueState("place", () -> x.place(0));
    }

    static void clearTellsTheTextAnewAlsoIfItHadNone() {
        BidiLevels x = new BidiLevels();
        x.resolve(0);
        Checks.dueIndex("level of the empty text", () -> x.level(0));
        x.clear();
        Checks.dueState("level", () -> x.level(0));
    }

    static void clearLeavesClassesBracketsAndMirrors() {
        BidiLevels x = Checks.withLine();
        x.clear();
        Checks.addAll(x, "r(r)a");
        x.resolve(0);
        Checks.levels("r(r)a", x, "11110");
        Checks.shown("r(r)a", x, 0, 5, "(r)ra", "11110");
    }

    // Promise 7: resolve

    static void resolveRefusesBasesBelow0() {
        Checks.refusedAlways(ARGUMENT, "resolve(-1)", x -> x.resolve(-1));
        Checks.refusedAlways(ARGUMENT, "resolve(the least int)", x -> x.resolve(LEAST_INT));
    }

    static void resolveRefusesBasesAbove2() {
        Checks.refusedAlways(ARGUMENT, "resolve(3)", x -> x.resolve(3));
        Checks.refusedAlways(ARGUMENT, "resolve(the greatest int)", x -> x.resolve(GREATEST_INT));
    }

    static void aRefusedResolveResolvesNothing() {
        BidiLevels x = Checks.withText();
        Checks.dueArgument("resolve(3)", () -> x.resolve(3));
        Checks.dueState("level(0)", () -> x.level(0));
        Checks.dueArgument("resolve(-1)", () -> x.resolve(-1));
        Checks.dueState("level(0)", () -> x.level(0));
    }

    static void resolveTakes0And1And2() {
        Checks.levels(0, "!r", "01");
        Checks.levels(1, "!a", "12");
        Checks.levels(2, "!r", "11");
        Checks.levels(2, "!a", "00");
    }

    static void resolveOfAnEmptyTextAnswers0() {
        for (int base = 0; base <= 2; base++) {
            BidiLevels x = Checks.signs();
            Checks.due("resolve(" + base + ")", x.resolve(base), 0);
            Checks.dueIndex("paragraph(0, 0)", () -> x.paragraph(0, 0));
            Checks.dueIndex("level(0)", () -> x.level(0));
        }
    }

    static void resolveMayBeAskedAgain() {
        BidiLevels x = Checks.resolved("a!r", 0);
        Checks.levels("a!r at 0", x, "001");
        x.resolve(1);
        Checks.levels("a!r at 1, then", x, "211");
        x.resolve(0);
        Checks.levels("a!r at 0 again", x, "001");
    }

    static void whatIsToldLaterCountsOnlyWhenResolvedAnew() {
        BidiLevels x = Checks.resolved("a!r", 0);
        addOne(x, 'r');
        Checks.dueState("level(0)", () -> x.level(0));
        Checks.due("resolve(0)", x.resolve(0), 1);
        Checks.levels("a!rr", x, "0011");
    }
}
