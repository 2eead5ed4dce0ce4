/** Each promise of the document: ordinary inputs, edges and wrong inputs, with answers worked out by hand. */
public final class PromisesTest {
    /** A sign for each class, in the order of the classes; brackets ( ) [ ] and the signs < > are ON, too. */
    private static final String SIGNS = "arf1+$9,~0\n\t !EOeopIiFP";
    private static final int NONE = BidiLevels.NONE;
    private static final int LAST = 1114111;
    private static int wrong = 0;
    private static int asked = 0;

    private interface Call {
        int answer();
    }

    private static void due(String what, Object got, Object want) {
        asked++;
        if (!want.equals(got)) {
            wrong++;
            System.out.println(what + " answered " + got + ", due is " + want);
        }
    }

    private static String nameOfThrown(Call call) {
        try {
            call.answer();
            return "nothing";
        } catch (RuntimeException e) {
            // The very class, so that an exception of the machine's own is not taken for the document's.
            return e.getClass().getSimpleName();
        }
    }

    private static void dueArgument(String what, Call call) {
        due(what, nameOfThrown(call), "IllegalArgumentException");
    }

    private static void dueState(String what, Call call) {
        due(what, nameOfThrown(call), "IllegalStateException");
    }

    private static void dueIndex(String what, Call call) {
        due(what, nameOfThrown(call), "IndexOutOfBoundsException");
    }

    private static int property(BidiLevels x, int first, int last, int kind) {
        x.property(first, last, kind);
        return 0;
    }

    private static int bracket(BidiLevels x, int opening, int closing) {
        x.bracket(opening, closing);
        return 0;
    }

    private static int mirror(BidiLevels x, int one, int other) {
        x.mirror(one, other);
        return 0;
    }

    private static BidiLevels signs() {
        BidiLevels x = new BidiLevels();
        for (int k = 0; k < SIGNS.length(); k++) {
            x.property(SIGNS.charAt(k), SIGNS.charAt(k), k);
        }
        for (char c : "()[]<>".toCharArray()) {
            x.property(c, c, 13);
        }
        x.bracket('(', ')');
        x.bracket('[', ']');
        x.mirror('(', ')');
        x.mirror('<', '>');
        return x;
    }

    private static void addAll(BidiLevels x, String text) {
        for (int i = 0; i < text.length(); i += 5) {
            int[] c = {NONE, NONE, NONE, NONE, NONE};
            for (int j = 0; j < 5 && i + j < text.length(); j++) {
                c[j] = text.charAt(i + j);
            }
            x.add(c[0], c[1], c[2], c[3], c[4]);
        }
    }

    private static BidiLevels resolved(String text, int base) {
        BidiLevels x = signs();
        addAll(x, text);
        x.resolve(base);
        return x;
    }

    private static String digit(int level) {
        return level == NONE ? "-" : Integer.toString(level, 36);
    }

    private static void levels(int base, String text, String want) {
        BidiLevels x = resolved(text, base);
        StringBuilder got = new StringBuilder();
        for (int i = 0; i < text.length(); i++) {
            got.append(digit(x.level(i)));
        }
        due("levels of " + text + " at " + base, got.toString(), want);
    }

    private static void kinds(int base, String text, String want) {
        BidiLevels x = resolved(text, base);
        StringBuilder got = new StringBuilder();
        for (int i = 0; i < text.length(); i++) {
            got.append(digit(x.kind(i)));
        }
        due("kinds of " + text + " at " + base, got.toString(), want);
    }

    /** The signs of a line as they are seen, and their levels there. */
    private static void shown(int base, String text, int from, int to, String want, String wantLevels) {
        BidiLevels x = resolved(text, base);
        int count = x.line(from, to);
        StringBuilder got = new StringBuilder();
        StringBuilder gotLevels = new StringBuilder();
        for (int k = 0; k < count; k++) {
            got.append((char) x.seen(k, 2));
            gotLevels.append(digit(x.seen(k, 1)));
        }
        String what = " of the line " + from + " .. " + to + " of " + text + " at " + base;
        due("what is seen" + what, got.toString(), want);
        due("the levels" + what, gotLevels.toString(), wantLevels);
    }

    private static void newObject() {
        due("NONE", BidiLevels.NONE, -1);
        BidiLevels x = new BidiLevels();
        dueState("level of a new object", () -> x.level(0));
        dueState("kind of a new object", () -> x.kind(0));
        dueState("match of a new object", () -> x.match(0));
        dueState("paragraph of a new object", () -> x.paragraph(0, 0));
        dueState("line of a new object", () -> x.line(0, 1));
        dueState("seen of a new object", () -> x.seen(0, 0));
        dueState("place of a new object", () -> x.place(0));
        due("clear of a new object", x.clear(), 0);
        due("add", x.add('(', 0x5D0, ')', 0, LAST), 5);
        due("resolve", x.resolve(1), 1);
        due("line", x.line(0, 5), 5);
        for (int i = 0; i < 5; i++) {
            due("kind " + i, x.kind(i), 0);
            due("level " + i, x.level(i), 2);
        }
        x.property(0, LAST, 1);
        x.resolve(0);
        x.line(0, 5);
        due("no mirror is told", x.seen(4, 2), (int) '(');
        x.property('(', ')', 13);
        x.property(LAST, LAST, 0);
        x.clear();
        x.add(1, '(', 1, ')', LAST);
        x.resolve(0);
        due("no bracket is told", x.level(3), 0);
    }

    private static void propertyPromise() {
        BidiLevels x = new BidiLevels();
        dueArgument("a first below 0", () -> property(x, -1, 5, 1));
        dueArgument("a last above all", () -> property(x, 0, LAST + 1, 1));
        dueArgument("both above all", () -> property(x, LAST + 1, LAST + 2, 1));
        dueArgument("first above last", () -> property(x, 6, 5, 1));
        dueArgument("class -1", () -> property(x, 5, 5, -1));
        dueArgument("class 23", () -> property(x, 5, 5, 23));
        x.add(4, 5, 7, 8, 9);
        x.property(5, 8, 1);
        x.property(8, 8, 2);
        x.property(7, 7, 0);
        x.add(5, 7, 8, 9, NONE);
        x.resolve(0);
        int[] want = {0, 1, 0, 1, 0, 1, 0, 1, 0};
        for (int i = 0; i < want.length; i++) {
            due("kind of " + i + " by ranges", x.kind(i), want[i]);
        }
        dueArgument("a wrong range after resolving", () -> property(x, 6, 5, 1));
        due("it changes nothing", x.level(1), 1);
        for (int i = 3; i < 100; i++) {
            x.property(5, 5, i % 2);
        }
        dueState("classes were told", () -> x.level(0));
        x.resolve(0);
        dueState("the 101st range", () -> property(x, 4, 4, 1));
        dueArgument("wrong input wins", () -> property(x, 4, 4, 23));
        due("100 ranges stay", x.level(0), 0);
        due("the last one told", x.kind(1), 1);
        x.clear();
        dueState("clear leaves the ranges", () -> property(x, 4, 4, 1));
    }

    private static void bracketPromise() {
        BidiLevels x = signs();
        dueArgument("no character", () -> bracket(x, -1, 5));
        dueArgument("no character", () -> bracket(x, 5, LAST + 1));
        dueArgument("the same", () -> bracket(x, 5, 5));
        dueArgument("an opening one already", () -> bracket(x, '(', 5));
        dueArgument("a closing one already", () -> bracket(x, ')', 5));
        dueArgument("an opening one already", () -> bracket(x, 5, '['));
        dueArgument("a closing one already", () -> bracket(x, 5, ']'));
        addAll(x, "r<r>a");
        x.resolve(0);
        due("no brackets yet", x.level(3), 0);
        dueArgument("a wrong one changes nothing", () -> bracket(x, '<', ')'));
        due("still resolved", x.level(3), 0);
        x.bracket('<', '>');
        dueState("a bracket was told", () -> x.level(3));
        x.resolve(0);
        due("brackets now", x.level(3), 1);
        for (int i = 3; i < 40; i++) {
            x.bracket(1000 + i, LAST - i);
        }
        x.resolve(0);
        dueState("the 41st pair", () -> bracket(x, 2000, 2001));
        dueArgument("wrong input wins", () -> bracket(x, 2000, 2000));
        due("still resolved", x.level(3), 1);
    }

    private static void mirrorPromise() {
        BidiLevels x = signs();
        dueArgument("no character", () -> mirror(x, -1, 5));
        dueArgument("no character", () -> mirror(x, 5, LAST + 1));
        dueArgument("the same", () -> mirror(x, 5, 5));
        dueArgument("has a mirror already", () -> mirror(x, '<', 5));
        dueArgument("is a mirror already", () -> mirror(x, 5, '>'));
        addAll(x, "r[<");
        x.resolve(1);
        x.line(0, 3);
        due("no mirror", x.seen(1, 2), (int) '[');
        due("a mirror", x.seen(0, 2), (int) '>');
        dueArgument("a wrong one changes nothing", () -> mirror(x, '[', ')'));
        due("the line stays", x.seen(1, 2), (int) '[');
        x.mirror('[', ']');
        dueState("a mirror was told", () -> x.level(0));
        dueState("a mirror was told", () -> x.seen(0, 0));
        x.resolve(1);
        x.line(0, 3);
        due("a mirror now", x.seen(1, 2), (int) ']');
        for (int i = 3; i < 40; i++) {
            x.mirror(LAST - i, 3000 + i);
        }
        x.resolve(1);
        dueState("the 41st pair", () -> mirror(x, 2000, 2001));
        dueArgument("wrong input wins", () -> mirror(x, '[', 2001));
        due("still resolved", x.level(0), 1);
        shown(1, "r<>(", 0, 4, ")<>r", "1111");
        shown(1, "a<>(a", 0, 5, "a<>(a", "22222");
    }

    private static void addPromise() {
        BidiLevels x = new BidiLevels();
        due("five", x.add(0, 1, 2, 3, LAST), 5);
        due("one", x.add(7, NONE, -5, LAST + 1, 7), 6);
        due("four", x.add(7, 7, 7, 7, NONE), 10);
        x.resolve(0);
        dueArgument("no character", () -> x.add(LAST + 1, NONE, 0, 0, 0));
        dueArgument("no character at the end", () -> x.add(7, 7, 7, 7, -2));
        due("nothing is changed", x.level(9), 0);
        dueIndex("nothing is changed", () -> x.level(10));
        due("none", x.add(NONE, 7, 7, 7, 7), 10);
        dueState("told anew by none", () -> x.level(0));
        for (int i = 0; i < 397; i++) {
            x.add(7, 7, 7, 7, 7);
        }
        due("up to 1999", x.add(7, 7, 7, 7, NONE), 1999);
        x.resolve(0);
        dueState("more than 2000", () -> x.add(7, 7, NONE, 7, 7));
        dueArgument("wrong input wins", () -> x.add(7, -2, NONE, 7, 7));
        due("nothing is changed", x.level(1998), 0);
        due("2000", x.add(7, NONE, 7, 7, 7), 2000);
        due("none at 2000", x.add(NONE, 7, 7, 7, 7), 2000);
        dueState("2001", () -> x.add(7, NONE, 7, 7, 7));
        due("resolve 2000", x.resolve(1), 1);
        due("line of 2000", x.line(0, 2000), 2000);
        due("level at the end", x.level(1999), 2);
        due("place at the end", x.place(1999), 1999);
    }

    private static void clearPromise() {
        BidiLevels x = resolved("rar", 2);
        x.line(0, 3);
        due("had", x.clear(), 3);
        dueState("level", () -> x.level(0));
        dueState("seen", () -> x.seen(0, 0));
        due("resolve", x.resolve(2), 0);
        dueIndex("no position", () -> x.level(0));
        dueIndex("no paragraph", () -> x.paragraph(0, 0));
        dueIndex("no line", () -> x.line(0, 1));
        due("had none", x.clear(), 0);
        dueState("told anew though it had none", () -> x.level(0));
        due("add", x.add('f', '1', NONE, NONE, NONE), 2);
        x.resolve(0);
        due("classes stay", x.kind(1), 6);
    }

    private static void basePromise() {
        BidiLevels x = signs();
        addAll(x, "rr");
        dueArgument("base -1", () -> x.resolve(-1));
        dueArgument("base 3", () -> x.resolve(3));
        dueState("a wrong base resolves nothing", () -> x.level(0));
        x.resolve(1);
        x.line(0, 2);
        dueArgument("base 3", () -> x.resolve(3));
        due("a wrong base changes nothing", x.seen(0, 0), 1);
        due("paragraphs", resolved("a\n\nr\na", 2).resolve(2), 4);
        due("a B at the end ends the last one", resolved("a\n", 2).resolve(2), 1);
        int[] bases = {0, 1, 1, 0, 1, 0, 0, 1};
        String[] texts = {"1 a", " r", "!fa", "19 !", "iaPr", "ir", "FrPPar", "PpOra"};
        for (int i = 0; i < texts.length; i++) {
            due("base of " + texts[i], resolved(texts[i], 2).paragraph(0, 2), bases[i]);
        }
    }

    private static void explicitLevels() {
        levels(0, "aerapa", "0-12-0");
        levels(0, "aErapa", "0-32-0");
        levels(0, "oa1!p", "-111-");
        levels(1, "Or9 p", "-222-");
        levels(0, "eear", "--43");
        levels(0, "aeipaPra", "0-1-4112");
        levels(0, "aiarPa", "002100");
        levels(0, "aIrPa", "00300");
        levels(0, "aFrPFaPa", "00100200");
        levels(0, "aFia PrPa", "001431100");
        levels(0, "apPa", "0-00");
        levels(0, "iepapr", "0--2-1");
        levels(0, "ieeaPr", "0--601");
        levels(0, "e0ra0", "--12-");
        levels(1, "a\na", "212");
        levels(0, "er\nr", "-101");
        kinds(0, "e0ra0p", "--10--");
        kinds(0, "oai", "-11");
        StringBuilder deep = new StringBuilder();
        for (int i = 0; i < 130; i++) {
            deep.append(i % 2 == 0 ? 'e' : 'E');
        }
        BidiLevels x = resolved(deep + "appppparippippPa", 0);
        due("level at the top", x.level(130), 126);
        due("too many closed first", x.level(136), 126);
        due("its class", x.kind(136), 0);
        due("R at 125", x.level(137), 125);
    }

    private static void weakRules() {
        kinds(0, "r~~a~", "11100");
        kinds(1, "~a", "10");
        kinds(0, "~r", "01");
        kinds(0, "f1", "16");
        kinds(0, "r1", "13");
        kinds(0, "fr1fa1", "113100");
        kinds(0, "r1+1", "1333");
        kinds(0, "r1,1,1", "133333");
        kinds(0, "r1,+1", "13113");
        kinds(0, "r9,9", "1666");
        kinds(0, "r9+9", "1616");
        kinds(0, "r1,9", "1316");
        kinds(0, "f1,1", "1666");
        kinds(0, "f1+1", "1616");
        kinds(0, "r$$1$$", "133333");
        kinds(0, "r$9$", "1160");
        kinds(0, "r+1,", "1130");
        kinds(0, "r$+1", "1113");
        kinds(0, "a1", "00");
        kinds(0, "1", "0");
        kinds(1, "1", "3");
        kinds(1, "a1r1", "0013");
        kinds(0, "a9", "06");
        levels(0, "r1a9", "1202");
        levels(1, "r1a9", "1222");
        levels(0, "r01,01", "1-22-2");
        kinds(0, "r1~,1", "13333");
        kinds(0, "f!~1", "1116");
        kinds(0, "rIaP1", "11013");
    }

    private static void bracketRule() {
        levels(0, "a(r)a", "00100");
        levels(0, "r(r)a", "11110");
        levels(0, "r(a)r", "10001");
        levels(0, "r(!)r", "11111");
        levels(0, "r(1)a", "11210");
        levels(1, "a(a)", "2222");
        levels(1, "(a)", "121");
        levels(0, "r(r]a", "11100");
        levels(0, "r([r)]a", "1111100");
        levels(0, "a(r)(r)", "0010010");
        levels(1, "r(a)(a)", "1121121");
        levels(0, "r(r)~~a", "1111110");
        levels(0, "r(~r)a", "111110");
        levels(0, "r)r(a", "11100");
        levels(0, "or(paa)", "-11-000");
        levels(0, "r(iaP)r", "1112111");
        levels(0, "r(irP)a", "1001000");
        bracketsThatAreMarks();
        for (int depth = 62; depth <= 65; depth++) {
            String open = "(".repeat(depth);
            String close = ")".repeat(depth);
            BidiLevels x = resolved("r" + open + "r" + close + "a", 0);
            due("the innermost of " + depth, x.level(depth + 2), depth <= 63 ? 1 : 0);
            due("the outermost of " + depth, x.level(depth + depth + 1), depth <= 63 ? 1 : 0);
        }
        BidiLevels x = resolved("r(r)a" + "(".repeat(64) + "r" + ")".repeat(64) + "a", 0);
        due("pairs found before the 64th stay", x.level(3), 1);
    }

    /** By W1 a mark is ON behind a PDI, so that it can be a bracket there; behind a letter it can't. */
    private static void bracketsThatAreMarks() {
        String[] texts = {"riP(r)a", "rP(r)a", "r(r)a"};
        int[] want = {1, 1, 0};
        for (int i = 0; i < texts.length; i++) {
            BidiLevels x = signs();
            x.property('(', '(', 8);
            addAll(x, texts[i]);
            x.resolve(0);
            due("the closing one of " + texts[i], x.level(texts[i].indexOf(')')), want[i]);
        }
    }

    private static void neutralRules() {
        levels(0, "r !r", "1111");
        levels(0, "a !r", "0001");
        levels(1, "a !r", "2111");
        levels(1, "a !a", "2222");
        levels(0, "r 9 1", "11212");
        levels(0, "r ", "10");
        levels(1, " a", "12");
        levels(0, "r\tr", "111");
        levels(0, "aer!pr", "0-11-1");
        levels(0, "!era", "0-12");
        levels(0, "e!E!p", "-1-2-");
        levels(0, "ri!Pr", "11111");
        levels(0, "i!", "01");
        levels(0, "re!p!r", "1-1-11");
    }

    private static void paragraphPromise() {
        BidiLevels x = resolved("ra\nir\n0", 2);
        int[][] want = {{0, 3, 1, 1}, {3, 6, 0, 3}, {6, 7, 0, 0}};
        for (int k = 0; k < 3; k++) {
            for (int what = 0; what < 4; what++) {
                due("paragraph " + k + ", " + what, x.paragraph(k, what), want[k][what]);
            }
        }
        dueIndex("paragraph -1", () -> x.paragraph(-1, 0));
        dueIndex("paragraph 3", () -> x.paragraph(3, 0));
        dueIndex("what -1", () -> x.paragraph(0, -1));
        dueIndex("what 4", () -> x.paragraph(0, 4));
        due("sequences over isolates", resolved("aiaPaIrP", 0).paragraph(0, 3), 3);
        x.add(NONE, 0, 0, 0, 0);
        dueState("State wins", () -> x.paragraph(-1, 4));
    }

    private static void positionPromises() {
        BidiLevels x = resolved("PiIaP1P\nFP0i", 0);
        int[] matches = {-1, 6, 4, -1, 2, -1, 1, -1, 9, 8, -1, -1};
        for (int i = 0; i < matches.length; i++) {
            due("match " + i, x.match(i), matches[i]);
        }
        due("removed", x.level(10), NONE);
        due("removed", x.kind(10), NONE);
        dueIndex("level -1", () -> x.level(-1));
        dueIndex("level at the end", () -> x.level(12));
        dueIndex("kind -1", () -> x.kind(-1));
        dueIndex("kind at the end", () -> x.kind(12));
        dueIndex("match -1", () -> x.match(-1));
        dueIndex("match at the end", () -> x.match(12));
        due("matches end with the paragraph", resolved("i\nP", 0).match(2), NONE);
        x.add('a', NONE, 0, 0, 0);
        dueState("State wins in level", () -> x.level(-1));
        dueState("State wins in kind", () -> x.kind(-1));
        dueState("State wins in match", () -> x.match(-1));
    }

    private static void linePromise() {
        shown(0, "ar1 r", 0, 5, "ar 1r", "01121");
        shown(0, "r 1 a", 0, 5, "1 r a", "21100");
        shown(1, "a r", 0, 3, "r a", "112");
        shown(0, "r r ", 0, 4, "r r ", "1110");
        shown(0, "r r ", 0, 2, "r ", "10");
        shown(0, "r r ", 1, 3, "r ", "11");
        shown(0, "r \tr ", 0, 5, "r \tr ", "10010");
        shown(0, "rr 0 0", 0, 6, "rr  ", "1100");
        shown(0, "r Pi\n", 0, 5, "r Pi\n", "10000");
        shown(0, "or iP Fpa", 0, 9, "aF Pi r", "2111111");
        shown(0, "or iP Fp", 0, 8, "r iP F", "100000");
        shown(1, "a1 ", 0, 3, " a1", "122");
        shown(0, "r9a", 1, 2, "9", "2");
        shown(0, "a0e", 1, 3, "", "");
        shown(0, "ere1aEar", 0, 8, "1aarr", "44451");
        BidiLevels x = resolved("ab\nrr\na", 0);
        dueIndex("from -1", () -> x.line(-1, 2));
        dueIndex("from at the end", () -> x.line(7, 7));
        dueIndex("to 0", () -> x.line(0, 0));
        dueIndex("to 0 below from", () -> x.line(1, 0));
        dueIndex("to behind the end", () -> x.line(0, 8));
        dueIndex("Index wins", () -> x.line(6, 8));
        dueState("no line yet", () -> x.seen(0, 0));
        due("a line", x.line(3, 5), 2);
        dueArgument("from is to", () -> x.line(2, 2));
        dueArgument("from above to", () -> x.line(2, 1));
        dueArgument("two paragraphs", () -> x.line(2, 4));
        dueArgument("two paragraphs", () -> x.line(0, 7));
        due("the line before stays", x.seen(0, 0), 4);
        due("a whole paragraph", x.line(0, 3), 3);
        due("the last paragraph", x.line(6, 7), 1);
        x.clear();
        dueState("State wins", () -> x.line(-1, -1));
    }

    private static void seenPromise() {
        BidiLevels x = resolved("a(0r<", 1);
        dueState("no line", () -> x.seen(0, 0));
        dueState("State wins", () -> x.seen(-1, 5));
        x.line(0, 5);
        int[][] want = {{4, 1, '>'}, {3, 1, 'r'}, {1, 1, ')'}, {0, 2, 'a'}};
        for (int k = 0; k < 4; k++) {
            for (int what = 0; what < 3; what++) {
                due("seen " + k + ", " + what, x.seen(k, what), want[k][what]);
            }
        }
        dueIndex("seen -1", () -> x.seen(-1, 0));
        dueIndex("seen 4", () -> x.seen(4, 0));
        dueIndex("what -1", () -> x.seen(0, -1));
        dueIndex("what 3", () -> x.seen(0, 3));
        x.line(2, 3);
        dueIndex("nothing is seen", () -> x.seen(0, 0));
        x.resolve(1);
        dueState("resolved anew", () -> x.seen(0, 0));
        dueState("resolved anew", () -> x.place(0));
        x.line(0, 5);
        x.add(NONE, 0, 0, 0, 0);
        dueState("told anew", () -> x.seen(0, 0));
    }

    private static void placePromise() {
        BidiLevels x = resolved("ar0ra", 0);
        dueState("no line", () -> x.place(0));
        dueState("State wins", () -> x.place(-1));
        x.line(0, 5);
        int[] want = {0, 2, NONE, 1, 3};
        for (int i = 0; i < 5; i++) {
            due("place " + i, x.place(i), want[i]);
        }
        dueIndex("place -1", () -> x.place(-1));
        dueIndex("place 5", () -> x.place(5));
        x.line(1, 4);
        int[] then = {NONE, 1, NONE, 0, NONE};
        for (int i = 0; i < 5; i++) {
            due("place " + i + " in the second line", x.place(i), then[i]);
        }
        x.property(5, 5, 5);
        dueState("told anew", () -> x.place(0));
    }

    public static void main(String[] args) {
        newObject();
        propertyPromise();
        bracketPromise();
        mirrorPromise();
        addPromise();
        clearPromise();
        basePromise();
        explicitLevels();
        weakRules();
        bracketRule();
        neutralRules();
        paragraphPromise();
        positionPromises();
        linePromise();
        seenPromise();
        placePromise();
        System.out.println(asked + " answers asked for, " + wrong + " wrong");
        if (wrong != 0) {
            System.exit(1);
        }
    }
}
