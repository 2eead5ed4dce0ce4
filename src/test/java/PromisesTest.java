/** Each promise of the document: ordinary inputs, edges and wrong inputs, with answers worked out by hand. */
public final class PromisesTest {
    private static final int NONE = Checks.NONE;
    private static final int LAST = Checks.LAST;

    public static void main(String[] args) {
        Checks.runTests(PromisesTest.class);
    }

    static void newObject() {
        Checks.due("NONE", BidiLevels.NONE, -1);
        BidiLevels x = new BidiLevels();
        Checks.dueState("level of a new object", () -> x.level(0));
        Checks.dueState("kind of a new object", () -> x.kind(0));
        Checks.dueState("match of a new object", () -> x.match(0));
        Checks.dueState("paragraph of a new object", () -> x.paragraph(0, 0));
        Checks.dueState("line of a new object", () -> x.line(0, 1));
        Checks.dueState("seen of a new object", () -> x.seen(0, 0));
        Checks.dueState("place of a new object", () -> x.place(0));
        Checks.due("clear of a new object", x.clear(), 0);
        Checks.due("add", x.add('(', 0x5D0, ')', 0, LAST), 5);
        Checks.due("resolve", x.resolve(1), 1);
        Checks.due("line", x.line(0, 5), 5);
        for (int i = 0; i < 5; i++) {
            Checks.due("kind " + i, x.kind(i), 0);
            Checks.due("level " + i, x.level(i), 2);
        }
        x.property(0, LAST, 1);
        x.resolve(0);
        x.line(0, 5);
        Checks.due("no mirror is told", x.seen(4, 2), (int) '(');
        x.property('(', ')', 13);
        x.property(LAST, LAST, 0);
        x.clear();
        x.add(1, '(', 1, ')', LAST);
        x.resolve(0);
        Checks.due("no bracket is told", x.level(3), 0);
    }

    static void theExampleInTheReadme() {
        BidiLevels x = new BidiLevels();
        x.property(32, 32, 12);
        x.property(0x5D0, 0x5EA, 1);
        x.property('(', ')', 13);
        x.bracket('(', ')');
        x.mirror('(', ')');
        Checks.due("add", x.add('a', ' ', 0x5D0, '(', 0x5D1), 5);
        Checks.due("add", x.add(')', BidiLevels.NONE, 0, 0, 0), 6);
        Checks.due("resolve", x.resolve(2), 1);
        Checks.due("level", x.level(2), 1);
        int[] want = {'a', ' ', '(', 0x5D1, ')', 0x5D0};
        Checks.due("line", x.line(0, 6), want.length);
        for (int k = 0; k < want.length; k++) {
            Checks.due("seen " + k, x.seen(k, 2), want[k]);
        }
    }

    static void propertyPromise() {
        BidiLevels x = new BidiLevels();
        Checks.dueArgument("a first below 0", () -> x.property(-1, 5, 1));
        Checks.dueArgument("a last above all", () -> x.property(0, LAST + 1, 1));
        Checks.dueArgument("both above all", () -> x.property(LAST + 1, LAST + 2, 1));
        Checks.dueArgument("first above last", () -> x.property(6, 5, 1));
        Checks.dueArgument("class -1", () -> x.property(5, 5, -1));
        Checks.dueArgument("class 23", () -> x.property(5, 5, 23));
        x.add(4, 5, 7, 8, 9);
        x.property(5, 8, 1);
        x.property(8, 8, 2);
        x.property(7, 7, 0);
        x.add(5, 7, 8, 9, NONE);
        x.resolve(0);
        int[] want = {0, 1, 0, 1, 0, 1, 0, 1, 0};
        for (int i = 0; i < want.length; i++) {
            Checks.due("kind of " + i + " by ranges", x.kind(i), want[i]);
        }
        Checks.dueArgument("a wrong range after resolving", () -> x.property(6, 5, 1));
        Checks.due("it changes nothing", x.level(1), 1);
        for (int i = 3; i < 100; i++) {
            x.property(5, 5, i % 2);
        }
        Checks.dueState("classes were told", () -> x.level(0));
        x.resolve(0);
        Checks.dueState("the 101st range", () -> x.property(4, 4, 1));
        Checks.dueArgument("wrong input wins", () -> x.property(4, 4, 23));
        Checks.due("100 ranges stay", x.level(0), 0);
        Checks.due("the last one told", x.kind(1), 1);
        x.clear();
        Checks.dueState("clear leaves the ranges", () -> x.property(4, 4, 1));
    }

    static void bracketPromise() {
        BidiLevels x = Checks.signs();
        Checks.dueArgument("no character", () -> x.bracket(-1, 5));
        Checks.dueArgument("no character", () -> x.bracket(5, LAST + 1));
        Checks.dueArgument("the same", () -> x.bracket(5, 5));
        Checks.dueArgument("an opening one already", () -> x.bracket('(', 5));
        Checks.dueArgument("a closing one already", () -> x.bracket(')', 5));
        Checks.dueArgument("an opening one already", () -> x.bracket(5, '['));
        Checks.dueArgument("a closing one already", () -> x.bracket(5, ']'));
        Checks.addAll(x, "r<r>a");
        x.resolve(0);
        Checks.due("no brackets yet", x.level(3), 0);
        Checks.dueArgument("a wrong one changes nothing", () -> x.bracket('<', ')'));
        Checks.due("still resolved", x.level(3), 0);
        x.bracket('<', '>');
        Checks.dueState("a bracket was told", () -> x.level(3));
        x.resolve(0);
        Checks.due("brackets now", x.level(3), 1);
        for (int i = 3; i < 40; i++) {
            x.bracket(1000 + i, LAST - i);
        }
        x.resolve(0);
        Checks.dueState("the 41st pair", () -> x.bracket(2000, 2001));
        Checks.dueArgument("wrong input wins", () -> x.bracket(2000, 2000));
        Checks.due("still resolved", x.level(3), 1);
    }

    static void mirrorPromise() {
        BidiLevels x = Checks.signs();
        Checks.dueArgument("no character", () -> x.mirror(-1, 5));
        Checks.dueArgument("no character", () -> x.mirror(5, LAST + 1));
        Checks.dueArgument("the same", () -> x.mirror(5, 5));
        Checks.dueArgument("has a mirror already", () -> x.mirror('<', 5));
        Checks.dueArgument("is a mirror already", () -> x.mirror(5, '>'));
        Checks.addAll(x, "r[<");
        x.resolve(1);
        x.line(0, 3);
        Checks.due("no mirror", x.seen(1, 2), (int) '[');
        Checks.due("a mirror", x.seen(0, 2), (int) '>');
        Checks.dueArgument("a wrong one changes nothing", () -> x.mirror('[', ')'));
        Checks.due("the line stays", x.seen(1, 2), (int) '[');
        x.mirror('[', ']');
        Checks.dueState("a mirror was told", () -> x.level(0));
        Checks.dueState("a mirror was told", () -> x.seen(0, 0));
        x.resolve(1);
        x.line(0, 3);
        Checks.due("a mirror now", x.seen(1, 2), (int) ']');
        for (int i = 3; i < 40; i++) {
            x.mirror(LAST - i, 3000 + i);
        }
        x.resolve(1);
        Checks.dueState("the 41st pair", () -> x.mirror(2000, 2001));
        Checks.dueArgument("wrong input wins", () -> x.mirror('[', 2001));
        Checks.due("still resolved", x.level(0), 1);
        Checks.shown(1, "r<>(", 0, 4, ")<>r", "1111");
        Checks.shown(1, "a<>(a", 0, 5, "a<>(a", "22222");
    }

    static void addPromise() {
        BidiLevels x = new BidiLevels();
        Checks.due("five", x.add(0, 1, 2, 3, LAST), 5);
        Checks.due("one", x.add(7, NONE, -5, LAST + 1, 7), 6);
        Checks.due("four", x.add(7, 7, 7, 7, NONE), 10);
        x.resolve(0);
        Checks.dueArgument("no character", () -> x.add(LAST + 1, NONE, 0, 0, 0));
        Checks.dueArgument("no character at the end", () -> x.add(7, 7, 7, 7, -2));
        Checks.due("nothing is changed", x.level(9), 0);
        Checks.dueIndex("nothing is changed", () -> x.level(10));
        Checks.due("none", x.add(NONE, 7, 7, 7, 7), 10);
        Checks.dueState("told anew by none", () -> x.level(0));
        for (int i = 0; i < 397; i++) {
            x.add(7, 7, 7, 7, 7);
        }
        Checks.due("up to 1999", x.add(7, 7, 7, 7, NONE), 1999);
        x.resolve(0);
        Checks.dueState("more than 2000", () -> x.add(7, 7, NONE, 7, 7));
        Checks.dueArgument("wrong input wins", () -> x.add(7, -2, NONE, 7, 7));
        Checks.due("nothing is changed", x.level(1998), 0);
        Checks.due("2000", x.add(7, NONE, 7, 7, 7), 2000);
        Checks.due("none at 2000", x.add(NONE, 7, 7, 7, 7), 2000);
        Checks.dueState("2001", () -> x.add(7, NONE, 7, 7, 7));
        Checks.due("resolve 2000", x.resolve(1), 1);
        Checks.due("line of 2000", x.line(0, 2000), 2000);
        Checks.due("level at the end", x.level(1999), 2);
        Checks.due("place at the end", x.place(1999), 1999);
    }

    static void clearPromise() {
        BidiLevels x = Checks.resolved("rar", 2);
        x.line(0, 3);
        Checks.due("had", x.clear(), 3);
        Checks.dueState("level", () -> x.level(0));
        Checks.dueState("seen", () -> x.seen(0, 0));
        Checks.due("resolve", x.resolve(2), 0);
        Checks.dueIndex("no position", () -> x.level(0));
        Checks.dueIndex("no paragraph", () -> x.paragraph(0, 0));
        Checks.dueIndex("no line", () -> x.line(0, 1));
        Checks.due("had none", x.clear(), 0);
        Checks.dueState("told anew though it had none", () -> x.level(0));
        Checks.due("add", x.add('f', '1', NONE, NONE, NONE), 2);
        x.resolve(0);
        Checks.due("classes stay", x.kind(1), 6);
    }

    static void basePromise() {
        BidiLevels x = Checks.signs();
        Checks.addAll(x, "rr");
        Checks.dueArgument("base -1", () -> x.resolve(-1));
        Checks.dueArgument("base 3", () -> x.resolve(3));
        Checks.dueState("a wrong base resolves nothing", () -> x.level(0));
        x.resolve(1);
        x.line(0, 2);
        Checks.dueArgument("base 3", () -> x.resolve(3));
        Checks.due("a wrong base changes nothing", x.seen(0, 0), 1);
        Checks.due("paragraphs", Checks.resolved("a\n\nr\na", 2).resolve(2), 4);
        Checks.due("a B at the end ends the last one", Checks.resolved("a\n", 2).resolve(2), 1);
        int[] bases = {0, 1, 1, 0, 1, 0, 0, 1};
        String[] texts = {"1 a", " r", "!fa", "19 !", "iaPr", "ir", "FrPPar", "PpOra"};
        for (int i = 0; i < texts.length; i++) {
            Checks.due("base of " + texts[i], Checks.resolved(texts[i], 2).paragraph(0, 2), bases[i]);
        }
    }

    static void explicitLevels() {
        Checks.levels(0, "aerapa", "0-12-0");
        Checks.levels(0, "aErapa", "0-32-0");
        Checks.levels(0, "oa1!p", "-111-");
        Checks.levels(1, "Or9 p", "-222-");
        Checks.levels(0, "eear", "--43");
        Checks.levels(0, "aeipaPra", "0-1-4112");
        Checks.levels(0, "aiarPa", "002100");
        Checks.levels(0, "aIrPa", "00300");
        Checks.levels(0, "aFrPFaPa", "00100200");
        Checks.levels(0, "aFia PrPa", "001431100");
        Checks.levels(0, "apPa", "0-00");
        Checks.levels(0, "iepapr", "0--2-1");
        Checks.levels(0, "ieeaPr", "0--601");
        Checks.levels(0, "e0ra0", "--12-");
        Checks.levels(1, "a\na", "212");
        Checks.levels(0, "er\nr", "-101");
        Checks.kinds(0, "e0ra0p", "--10--");
        Checks.kinds(0, "oai", "-11");
        StringBuilder deep = new StringBuilder();
        for (int i = 0; i < 130; i++) {
            deep.append(i % 2 == 0 ? 'e' : 'E');
        }
        BidiLevels x = Checks.resolved(deep + "appppparippippPa", 0);
        Checks.due("level at the top", x.level(130), 126);
        Checks.due("too many closed first", x.level(136), 126);
        Checks.due("its class", x.kind(136), 0);
        Checks.due("R at 125", x.level(137), 125);
    }

    static void weakRules() {
        Checks.kinds(0, "r~~a~", "11100");
        Checks.kinds(1, "~a", "10");
        Checks.kinds(0, "~r", "01");
        Checks.kinds(0, "f1", "16");
        Checks.kinds(0, "r1", "13");
        Checks.kinds(0, "fr1fa1", "113100");
        Checks.kinds(0, "r1+1", "1333");
        Checks.kinds(0, "r1,1,1", "133333");
        Checks.kinds(0, "r1,+1", "13113");
        Checks.kinds(0, "r9,9", "1666");
        Checks.kinds(0, "r9+9", "1616");
        Checks.kinds(0, "r1,9", "1316");
        Checks.kinds(0, "f1,1", "1666");
        Checks.kinds(0, "f1+1", "1616");
        Checks.kinds(0, "r$$1$$", "133333");
        Checks.kinds(0, "r$9$", "1160");
        Checks.kinds(0, "r+1,", "1130");
        Checks.kinds(0, "r$+1", "1113");
        Checks.kinds(0, "a1", "00");
        Checks.kinds(0, "1", "0");
        Checks.kinds(1, "1", "3");
        Checks.kinds(1, "a1r1", "0013");
        Checks.kinds(0, "a9", "06");
        Checks.levels(0, "r1a9", "1202");
        Checks.levels(1, "r1a9", "1222");
        Checks.levels(0, "r01,01", "1-22-2");
        Checks.kinds(0, "r1~,1", "13333");
        Checks.kinds(0, "f!~1", "1116");
        Checks.kinds(0, "rIaP1", "11013");
    }

    static void bracketRule() {
        Checks.levels(0, "a(r)a", "00100");
        Checks.levels(0, "r(r)a", "11110");
        Checks.levels(0, "r(a)r", "10001");
        Checks.levels(0, "r(!)r", "11111");
        Checks.levels(0, "r(1)a", "11210");
        Checks.levels(1, "a(a)", "2222");
        Checks.levels(1, "(a)", "121");
        Checks.levels(0, "r(r]a", "11100");
        Checks.levels(0, "r([r)]a", "1111100");
        Checks.levels(0, "a(r)(r)", "0010010");
        Checks.levels(1, "r(a)(a)", "1121121");
        Checks.levels(0, "r(r)~~a", "1111110");
        Checks.levels(0, "r(~r)a", "111110");
        Checks.levels(0, "r)r(a", "11100");
        Checks.levels(0, "or(paa)", "-11-000");
        Checks.levels(0, "r(iaP)r", "1112111");
        Checks.levels(0, "r(irP)a", "1001000");
        for (int depth = 62; depth <= 65; depth++) {
            String open = "(".repeat(depth);
            String close = ")".repeat(depth);
            BidiLevels x = Checks.resolved("r" + open + "r" + close + "a", 0);
            Checks.due("the innermost of " + depth, x.level(depth + 2), depth <= 63 ? 1 : 0);
            Checks.due("the outermost of " + depth, x.level(depth + depth + 1), depth <= 63 ? 1 : 0);
        }
        BidiLevels x = Checks.resolved("r(r)a" + "(".repeat(64) + "r" + ")".repeat(64) + "a", 0);
        Checks.due("pairs found before the 64th stay", x.level(3), 1);
    }

    /** By W1 a mark is ON behind a PDI, so that it can be a bracket there; behind a letter it can't. */
    static void bracketsThatAreMarks() {
        String[] texts = {"riP(r)a", "rP(r)a", "r(r)a"};
        int[] want = {1, 1, 0};
        for (int i = 0; i < texts.length; i++) {
            BidiLevels x = Checks.signs();
            x.property('(', '(', 8);
            Checks.addAll(x, texts[i]);
            x.resolve(0);
            Checks.due("the closing one of " + texts[i], x.level(texts[i].indexOf(')')), want[i]);
        }
    }

    static void neutralRules() {
        Checks.levels(0, "r !r", "1111");
        Checks.levels(0, "a !r", "0001");
        Checks.levels(1, "a !r", "2111");
        Checks.levels(1, "a !a", "2222");
        Checks.levels(0, "r 9 1", "11212");
        Checks.levels(0, "r ", "10");
        Checks.levels(1, " a", "12");
        Checks.levels(0, "r\tr", "111");
        Checks.levels(0, "aer!pr", "0-11-1");
        Checks.levels(0, "!era", "0-12");
        Checks.levels(0, "e!E!p", "-1-2-");
        Checks.levels(0, "ri!Pr", "11111");
        Checks.levels(0, "i!", "01");
        Checks.levels(0, "re!p!r", "1-1-11");
    }

    static void paragraphPromise() {
        BidiLevels x = Checks.resolved("ra\nir\n0", 2);
        int[][] want = {{0, 3, 1, 1}, {3, 6, 0, 3}, {6, 7, 0, 0}};
        for (int k = 0; k < 3; k++) {
            for (int what = 0; what < 4; what++) {
                Checks.due("paragraph " + k + ", " + what, x.paragraph(k, what), want[k][what]);
            }
        }
        Checks.dueIndex("paragraph -1", () -> x.paragraph(-1, 0));
        Checks.dueIndex("paragraph 3", () -> x.paragraph(3, 0));
        Checks.dueIndex("what -1", () -> x.paragraph(0, -1));
        Checks.dueIndex("what 4", () -> x.paragraph(0, 4));
        Checks.due("sequences over isolates", Checks.resolved("aiaPaIrP", 0).paragraph(0, 3), 3);
        x.add(NONE, 0, 0, 0, 0);
        Checks.dueState("State wins", () -> x.paragraph(-1, 4));
    }

    static void positionPromises() {
        BidiLevels x = Checks.resolved("PiIaP1P\nFP0i", 0);
        int[] matches = {-1, 6, 4, -1, 2, -1, 1, -1, 9, 8, -1, -1};
        for (int i = 0; i < matches.length; i++) {
            Checks.due("match " + i, x.match(i), matches[i]);
        }
        Checks.due("removed", x.level(10), NONE);
        Checks.due("removed", x.kind(10), NONE);
        Checks.dueIndex("level -1", () -> x.level(-1));
        Checks.dueIndex("level at the end", () -> x.level(12));
        Checks.dueIndex("kind -1", () -> x.kind(-1));
        Checks.dueIndex("kind at the end", () -> x.kind(12));
        Checks.dueIndex("match -1", () -> x.match(-1));
        Checks.dueIndex("match at the end", () -> x.match(12));
        Checks.due("matches end with the paragraph", Checks.resolved("i\nP", 0).match(2), NONE);
        x.add('a', NONE, 0, 0, 0);
        Checks.dueState("State wins in level", () -> x.level(-1));
        Checks.dueState("State wins in kind", () -> x.kind(-1));
        Checks.dueState("State wins in match", () -> x.match(-1));
    }

    static void linePromise() {
        Checks.shown(0, "ar1 r", 0, 5, "ar 1r", "01121");
        Checks.shown(0, "r 1 a", 0, 5, "1 r a", "21100");
        Checks.shown(1, "a r", 0, 3, "r a", "112");
        Checks.shown(0, "r r ", 0, 4, "r r ", "1110");
        Checks.shown(0, "r r ", 0, 2, "r ", "10");
        Checks.shown(0, "r r ", 1, 3, "r ", "11");
        Checks.shown(0, "r \tr ", 0, 5, "r \tr ", "10010");
        Checks.shown(0, "rr 0 0", 0, 6, "rr  ", "1100");
        Checks.shown(0, "r Pi\n", 0, 5, "r Pi\n", "10000");
        Checks.shown(0, "or iP Fpa", 0, 9, "aF Pi r", "2111111");
        Checks.shown(0, "or iP Fp", 0, 8, "r iP F", "100000");
        Checks.shown(1, "a1 ", 0, 3, " a1", "122");
        Checks.shown(0, "r9a", 1, 2, "9", "2");
        Checks.shown(0, "a0e", 1, 3, "", "");
        Checks.shown(0, "ere1aEar", 0, 8, "1aarr", "44451");
        BidiLevels x = Checks.resolved("ab\nrr\na", 0);
        Checks.dueIndex("from -1", () -> x.line(-1, 2));
        Checks.dueIndex("from at the end", () -> x.line(7, 7));
        Checks.dueIndex("to 0", () -> x.line(0, 0));
        Checks.dueIndex("to 0 below from", () -> x.line(1, 0));
        Checks.dueIndex("to behind the end", () -> x.line(0, 8));
        Checks.dueIndex("Index wins", () -> x.line(6, 8));
        Checks.dueState("no line yet", () -> x.seen(0, 0));
        Checks.due("a line", x.line(3, 5), 2);
        Checks.dueArgument("from is to", () -> x.line(2, 2));
        Checks.dueArgument("from above to", () -> x.line(2, 1));
        Checks.dueArgument("two paragraphs", () -> x.line(2, 4));
        Checks.dueArgument("two paragraphs", () -> x.line(0, 7));
        Checks.due("the line before stays", x.seen(0, 0), 4);
        Checks.due("a whole paragraph", x.line(0, 3), 3);
        Checks.due("the last paragraph", x.line(6, 7), 1);
        x.clear();
        Checks.dueState("State wins", () -> x.line(-1, -1));
    }

    static void seenPromise() {
        BidiLevels x = Checks.resolved("a(0r<", 1);
        Checks.dueState("no line", () -> x.seen(0, 0));
        Checks.dueState("State wins", () -> x.seen(-1, 5));
        x.line(0, 5);
        int[][] want = {{4, 1, '>'}, {3, 1, 'r'}, {1, 1, ')'}, {0, 2, 'a'}};
        for (int k = 0; k < 4; k++) {
            for (int what = 0; what < 3; what++) {
                Checks.due("seen " + k + ", " + what, x.seen(k, what), want[k][what]);
            }
        }
        Checks.dueIndex("seen -1", () -> x.seen(-1, 0));
        Checks.dueIndex("seen 4", () -> x.seen(4, 0));
        Checks.dueIndex("what -1", () -> x.seen(0, -1));
        Checks.dueIndex("what 3", () -> x.seen(0, 3));
        x.line(2, 3);
        Checks.dueIndex("nothing is seen", () -> x.seen(0, 0));
        x.resolve(1);
        Checks.dueState("resolved anew", () -> x.seen(0, 0));
        Checks.dueState("resolved anew", () -> x.place(0));
        x.line(0, 5);
        x.add(NONE, 0, 0, 0, 0);
        Checks.dueState("told anew", () -> x.seen(0, 0));
    }

    static void placePromise() {
        BidiLevels x = Checks.resolved("ar0ra", 0);
        Checks.dueState("no line", () -> x.place(0));
        Checks.dueState("State wins", () -> x.place(-1));
        x.line(0, 5);
        int[] want = {0, 2, NONE, 1, 3};
        for (int i = 0; i < 5; i++) {
            Checks.due("place " + i, x.place(i), want[i]);
        }
        Checks.dueIndex("place -1", () -> x.place(-1));
        Checks.dueIndex("place 5", () -> x.place(5));
        x.line(1, 4);
        int[] then = {NONE, 1, NONE, 0, NONE};
        for (int i = 0; i < 5; i++) {
            Checks.due("place " + i + " in the second line", x.place(i), then[i]);
        }
        x.property(5, 5, 5);
        Checks.dueState("told anew", () -> x.place(0));
    }
}
