import java.lang.reflect.InvocationTargetException;
import java.lang.reflect.Method;
import java.lang.reflect.Modifier;
import java.util.Arrays;
import java.util.Comparator;
import java.util.function.Consumer;
import java.util.function.Supplier;

/** What the tests share: the answers that are due, texts written in signs, and the running of a class's tests. */
final class Checks {
    static final int NONE = BidiLevels.NONE;
    static final int LAST = 1114111;
    static final int LEAST_INT = Integer.MIN_VALUE;
    static final int GREATEST_INT = Integer.MAX_VALUE;
    static final String ARGUMENT = "IllegalArgumentException";
    static final String STATE = "IllegalStateException";
    static final String INDEX = "IndexOutOfBoundsException";
    /** A sign for each class, in the order of the classes; the signs of ON_SIGNS are ON, too. */
    static final String SIGNS = "arf1+$9,~0\n\t !EOeopIiFP";
    static final String ON_SIGNS = "()[]<>";

    private static String test = "";
    private static int asked = 0;
    private static int wrong = 0;

    private Checks() {
    }

    interface Call {
        int answer();
    }

    interface Tell {
        void tell();
    }

    /** Every static method without parameters is a test of its own; one that asks nothing is wrong, too. */
    static void runTests(Class<?> tests) {
        Method[] methods = tests.getDeclaredMethods();
        Arrays.sort(methods, Comparator.comparing(Method::getName));
        int count = 0;
        for (Method method : methods) {
            if (isTest(method)) {
                runTest(method);
                count++;
            }
        }
        System.out.println(count + " tests, " + asked + " answers asked for, " + wrong + " wrong");
        if (wrong != 0 || count == 0) {
            System.exit(1);
        }
    }

    private static boolean isTest(Method method) {
        return Modifier.isStatic(method.getModifiers()) && !method.isSynthetic() && method.getParameterCount() == 0
                && method.getReturnType() == void.class;
    }

    private static void runTest(Method method) {
        test = method.getName();
        int before = asked;
        try {
            method.setAccessible(true);
            method.invoke(null);
        } catch (InvocationTargetException e) {
            due("the test", "threw " + e.getCause(), "threw nothing");
        } catch (IllegalAccessException e) {
            due("the test", "can't be run", "can be run");
        }
        if (asked == before) {
            due("the test", "asked nothing", "asked something");
        }
    }

    static void due(String what, Object got, Object want) {
        asked++;
        if (!want.equals(got)) {
            wrong++;
            System.out.println(test + ": " + what + " answered " + got + ", due is " + want);
        }
    }

    /** The very class of what is thrown, so that the machine's own exceptions are not taken for the document's. */
    private static String thrownBy(Tell call) {
        try {
            call.tell();
            return "nothing";
        } catch (RuntimeException e) {
            return e.getClass().getSimpleName();
        }
    }

    static void taken(String what, Tell call) {
        due("what is thrown by " + what, thrownBy(call), "nothing");
    }

    static void dueArgument(String what, Tell call) {
        due("what is thrown by " + what, thrownBy(call), ARGUMENT);
    }

    static void dueState(String what, Tell call) {
        due("what is thrown by " + what, thrownBy(call), STATE);
    }

    static void dueIndex(String what, Tell call) {
        due("what is thrown by " + what, thrownBy(call), INDEX);
    }

    /** The call throws that, and what it is called on goes on as a twin that was not called. */
    static void refused(String exception, String what, Supplier<BidiLevels> maker, Consumer<BidiLevels> call) {
        BidiLevels x = maker.get();
        BidiLevels twin = maker.get();
        due("what is thrown by " + what, thrownBy(() -> call.accept(x)), exception);
        due("all answers after " + what, allAnswers(x), allAnswers(twin));
        due("what goes on after " + what, answersGoingOn(x), answersGoingOn(twin));
    }

    static void refused(String exception, String what, Consumer<BidiLevels> call) {
        refused(exception, what + " (with a line)", Checks::withLine, call);
        refused(exception, what + " (resolved, without a line)", Checks::withLevels, call);
    }

    /** What tells something is refused in a text that is not resolved, too, and leaves it so. */
    static void refusedAlways(String exception, String what, Consumer<BidiLevels> call) {
        refused(exception, what, call);
        refused(exception, what + " (not resolved)", Checks::withText, call);
        refused(exception, what + " (new)", BidiLevels::new, call);
    }

    private static final String EXAMPLE = "a(r)<0i1P\nr";

    static BidiLevels withText() {
        BidiLevels x = signs();
        addAll(x, EXAMPLE);
        return x;
    }

    static BidiLevels withLevels() {
        BidiLevels x = withText();
        x.resolve(2);
        return x;
    }

    static BidiLevels withLine() {
        BidiLevels x = withLevels();
        x.line(2, 9);
        return x;
    }

    /** All that can be asked of a text not longer than the example. */
    static String allAnswers(BidiLevels x) {
        StringBuilder all = new StringBuilder();
        for (int i = 0; i <= EXAMPLE.length(); i++) {
            int at = i;
            say(all, () -> x.level(at));
            say(all, () -> x.kind(at));
            say(all, () -> x.match(at));
            say(all, () -> x.place(at));
            say(all, () -> x.seen(at, 0));
            say(all, () -> x.seen(at, 1));
            say(all, () -> x.seen(at, 2));
        }
        for (int k = 0; k < 3; k++) {
            int at = k;
            for (int what = 0; what < 4; what++) {
                int asks = what;
                say(all, () -> x.paragraph(at, asks));
            }
        }
        return all.toString();
    }

    private static String answersGoingOn(BidiLevels x) {
        StringBuilder all = new StringBuilder();
        say(all, () -> x.add(NONE, NONE, NONE, NONE, NONE));
        say(all, () -> x.resolve(1));
        say(all, () -> x.line(0, 10));
        return all + allAnswers(x);
    }

    private static void say(StringBuilder all, Call call) {
        int[] answer = {0};
        String thrown = thrownBy(() -> answer[0] = call.answer());
        all.append(thrown.equals("nothing") ? Integer.toString(answer[0]) : thrown).append(' ');
    }

    static BidiLevels signs() {
        BidiLevels x = new BidiLevels();
        for (int k = 0; k < SIGNS.length(); k++) {
            x.property(SIGNS.charAt(k), SIGNS.charAt(k), k);
        }
        for (char c : ON_SIGNS.toCharArray()) {
            x.property(c, c, 13);
        }
        x.bracket('(', ')');
        x.bracket('[', ']');
        x.mirror('(', ')');
        x.mirror('<', '>');
        return x;
    }

    static void addAll(BidiLevels x, String text) {
        for (int i = 0; i < text.length(); i += 5) {
            int[] c = {NONE, NONE, NONE, NONE, NONE};
            for (int j = 0; j < 5 && i + j < text.length(); j++) {
                c[j] = text.charAt(i + j);
            }
            x.add(c[0], c[1], c[2], c[3], c[4]);
        }
    }

    static BidiLevels resolved(String text, int base) {
        BidiLevels x = signs();
        addAll(x, text);
        x.resolve(base);
        return x;
    }

    private static String digit(int level) {
        return level == NONE ? "-" : Integer.toString(level, 36);
    }

    private static String levelsOf(BidiLevels x, int from, int to) {
        StringBuilder got = new StringBuilder();
        for (int i = from; i < to; i++) {
            got.append(digit(x.level(i)));
        }
        return got.toString();
    }

    private static String kindsOf(BidiLevels x, int from, int to) {
        StringBuilder got = new StringBuilder();
        for (int i = from; i < to; i++) {
            got.append(digit(x.kind(i)));
        }
        return got.toString();
    }

    /** Levels as digits, above 9 as letters, - for what is removed. */
    static void levels(int base, String text, String want) {
        due("levels of " + text + " at " + base, levelsOf(resolved(text, base), 0, text.length()), want);
    }

    static void levels(String what, BidiLevels x, String want) {
        due("levels of " + what, levelsOf(x, 0, want.length()), want);
    }

    static void kinds(int base, String text, String want) {
        due("kinds of " + text + " at " + base, kindsOf(resolved(text, base), 0, text.length()), want);
    }

    static void kinds(String what, BidiLevels x, String want) {
        due("kinds of " + what, kindsOf(x, 0, want.length()), want);
    }

    static void matches(String text, int... want) {
        BidiLevels x = resolved(text, 0);
        for (int i = 0; i < want.length; i++) {
            due("match(" + i + ") in " + text, x.match(i), want[i]);
        }
    }

    /** The bases of a text's paragraphs, told 2. */
    static void bases(String text, int... want) {
        BidiLevels x = signs();
        addAll(x, text);
        due("paragraphs of " + text, x.resolve(2), want.length);
        for (int k = 0; k < want.length; k++) {
            due("base " + k + " of " + text, x.paragraph(k, 2), want[k]);
        }
    }

    /** The signs of a line as they are seen, and their levels there. */
    static void shown(int base, String text, int from, int to, String want, String wantLevels) {
        shown("text " + text + " at " + base, resolved(text, base), from, to, want, wantLevels);
    }

    static void shown(String what, BidiLevels x, int from, int to, String want, String wantLevels) {
        int count = x.line(from, to);
        StringBuilder got = new StringBuilder();
        StringBuilder gotLevels = new StringBuilder();
        for (int k = 0; k < count; k++) {
            got.append((char) x.seen(k, 2));
            gotLevels.append(digit(x.seen(k, 1)));
        }
        String line = " in the line " + from + " .. " + to + " of the " + what;
        due("what is seen" + line, got.toString(), want);
        due("the levels" + line, gotLevels.toString(), wantLevels);
    }
}
