import java.util.ArrayDeque;
import java.util.ArrayList;
import java.util.Arrays;
import java.util.Collections;
import java.util.HashMap;
import java.util.List;
import java.util.Map;

/** Random runs of calls beside a slow model that says the document's sentences one by one. */
public final class ModelTest {
    private static final int L = 0, R = 1, AL = 2, EN = 3, ES = 4, ET = 5, AN = 6, CS = 7, NSM = 8, BN = 9, B = 10,
            S = 11, WS = 12, ON = 13, LRE = 14, LRO = 15, RLE = 16, RLO = 17, PDF = 18, LRI = 19, RLI = 20, FSI = 21,
            PDI = 22;
    private static final String ARGUMENT = "throws.IllegalArgumentException";
    private static final String STATE = "throws.IllegalStateException";
    private static final String INDEX = "throws.IndexOutOfBoundsException";

    /** The slow model. */
    private static final class Model {
        final List<int[]> ranges = new ArrayList<>();
        final List<int[]> brackets = new ArrayList<>();
        final List<int[]> mirrors = new ArrayList<>();
        final List<Integer> text = new ArrayList<>();
        boolean resolved;
        List<int[]> paragraphs = new ArrayList<>();
        int[] first;
        int[] kind;
        int[] depth;
        int[] level;
        int[] match;
        List<Integer> seen;
        Map<Integer, Integer> seenLevel;

        static boolean character(int c) {
            return c >= 0 && c <= 1114111;
        }

        String property(int f, int l, int k) {
            if (!character(f) || !character(l) || f > l || k < 0 || k > 22) {
                return ARGUMENT;
            }
            if (ranges.size() == 100) {
                return STATE;
            }
            ranges.add(new int[] {f, l, k});
            return told("void");
        }

        String pair(List<int[]> pairs, int one, int other) {
            if (!character(one) || !character(other) || one == other) {
                return ARGUMENT;
            }
            for (int[] p : pairs) {
                if (p[0] == one || p[1] == one || p[0] == other || p[1] == other) {
                    return ARGUMENT;
                }
            }
            if (pairs.size() == 40) {
                return STATE;
            }
            pairs.add(new int[] {one, other});
            return told("void");
        }

        String add(int... five) {
            List<Integer> more = new ArrayList<>();
            for (int c : five) {
                if (c == -1) {
                    break;
                }
                if (!character(c)) {
                    return ARGUMENT;
                }
                more.add(c);
            }
            if (text.size() + more.size() > 2000) {
                return STATE;
            }
            text.addAll(more);
            return told("" + text.size());
        }

        String clear() {
            int had = text.size();
            text.clear();
            return told("" + had);
        }

        String told(String answer) {
            resolved = false;
            seen = null;
            return answer;
        }

        String resolve(int base) {
            if (base < 0 || base > 2) {
                return ARGUMENT;
            }
            int n = text.size();
            first = new int[n];
            match = new int[n];
            depth = new int[n];
            level = new int[n];
            paragraphs = new ArrayList<>();
            int begin = 0;
            for (int i = 0; i < n; i++) {
                for (int[] r : ranges) {
                    if (text.get(i) >= r[0] && text.get(i) <= r[1]) {
                        first[i] = r[2];
                    }
                }
                if (first[i] == B || i == n - 1) {
                    paragraphs.add(new int[] {begin, i + 1, 0, 0});
                    begin = i + 1;
                }
            }
            kind = first.clone();
            for (int[] p : paragraphs) {
                resolveParagraph(p, base);
            }
            resolved = true;
            seen = null;
            return "" + paragraphs.size();
        }

        void resolveParagraph(int[] p, int base) {
            for (int i = p[0]; i < p[1]; i++) {
                match[i] = -1;
            }
            for (int i = p[0]; i < p[1]; i++) {
                int counted = 1;
                for (int j = i + 1; isolate(first[i]) && j < p[1] && counted > 0; j++) {
                    counted += isolate(first[j]) ? 1 : first[j] == PDI ? -1 : 0;
                    if (counted == 0) {
                        match[i] = j;
                        match[j] = i;
                    }
                }
            }
            p[2] = base < 2 ? base : rightIn(p[0], p[1]) ? 1 : 0;
            explicit(p);
            p[3] = sequences(p);
        }

        static boolean isolate(int k) {
            return k == LRI || k == RLI || k == FSI;
        }

        boolean rightIn(int from, int to) {
            for (int i = from; i < to; i++) {
                boolean hidden = false;
                for (int j = from; j < i; j++) {
                    hidden |= isolate(first[j]) && (match[j] == -1 || i < match[j]);
                }
                if (!hidden && first[i] <= AL) {
                    return first[i] != L;
                }
            }
            return false;
        }

        static int next(int top, boolean right) {
            int l = top + 1;
            while ((l % 2 == 1) != right) {
                l++;
            }
            return l;
        }

        void explicit(int[] p) {
            ArrayDeque<int[]> stack = new ArrayDeque<>();
            stack.push(new int[] {p[2], -1, 0});
            int tooManyI = 0;
            int tooManyE = 0;
            int open = 0;
            for (int i = p[0]; i < p[1]; i++) {
                int f = first[i];
                if (f >= LRE && f <= RLO) {
                    int l = next(stack.peek()[0], f == RLE || f == RLO);
                    if (l <= 125 && tooManyI == 0 && tooManyE == 0) {
                        stack.push(new int[] {l, f == RLO ? R : f == LRO ? L : -1, 0});
                    } else if (tooManyI == 0) {
                        tooManyE++;
                    }
                    kind[i] = -1;
                    depth[i] = -1;
                } else if (f == PDF) {
                    if (tooManyI == 0) {
                        if (tooManyE > 0) {
                            tooManyE--;
                        } else if (stack.peek()[2] == 0 && stack.size() > 1) {
                            stack.pop();
                        }
                    }
                    kind[i] = -1;
                    depth[i] = -1;
                } else if (f == BN) {
                    kind[i] = -1;
                    depth[i] = -1;
                } else if (f == B) {
                    depth[i] = p[2];
                } else {
                    if (f == PDI) {
                        if (tooManyI > 0) {
                            tooManyI--;
                        } else if (open > 0) {
                            tooManyE = 0;
                            while (stack.pop()[2] == 0) {
                                continue;
                            }
                            open--;
                        }
                    }
                    depth[i] = stack.peek()[0];
                    kind[i] = stack.peek()[1] == -1 ? f : stack.peek()[1];
                    if (isolate(f)) {
                        boolean right = f == RLI || f == FSI && rightIn(i + 1, match[i] == -1 ? p[1] : match[i]);
                        int l = next(stack.peek()[0], right);
                        if (l <= 125 && tooManyI == 0 && tooManyE == 0) {
                            open++;
                            stack.push(new int[] {l, -1, 1});
                        } else {
                            tooManyI++;
                        }
                    }
                }
            }
        }

        int sequences(int[] p) {
            List<List<Integer>> runs = new ArrayList<>();
            List<Integer> left = new ArrayList<>();
            for (int i = p[0]; i < p[1]; i++) {
                level[i] = -1;
                if (depth[i] != -1) {
                    if (left.isEmpty() || depth[left.get(left.size() - 1)] != depth[i]) {
                        runs.add(new ArrayList<>());
                    }
                    runs.get(runs.size() - 1).add(i);
                    left.add(i);
                }
            }
            int found = 0;
            for (List<Integer> run : runs) {
                if (first[run.get(0)] == PDI && match[run.get(0)] != -1) {
                    continue;
                }
                List<Integer> sequence = new ArrayList<>(run);
                int last = sequence.get(sequence.size() - 1);
                while (isolate(first[last]) && match[last] != -1) {
                    for (List<Integer> other : runs) {
                        if (other.contains(match[last])) {
                            sequence.addAll(other);
                            break;
                        }
                    }
                    last = sequence.get(sequence.size() - 1);
                }
                int at = left.indexOf(sequence.get(0));
                int to = left.indexOf(last) + 1;
                int own = depth[last];
                int before = Math.max(own, at == 0 ? p[2] : depth[left.get(at - 1)]) % 2;
                boolean alone = to == left.size() || isolate(first[last]) && match[last] == -1;
                int behind = Math.max(own, alone ? p[2] : depth[left.get(to)]) % 2;
                rules(sequence, own % 2, before, behind);
                found++;
            }
            return found;
        }

        void rules(List<Integer> q, int own, int before, int behind) {
            int n = q.size();
            int[] k = new int[n];
            for (int i = 0; i < n; i++) {
                k[i] = kind[q.get(i)];
            }
            int[] beforeW1 = k.clone();
            weak(q, k, before);
            pairs(q, k, beforeW1, own, before);
            int[] afterN0 = k.clone();
            for (int i = 0; i < n; i++) {
                if (side(afterN0[i]) == -1) {
                    int a = i;
                    int z = i;
                    while (a >= 0 && side(afterN0[a]) == -1) {
                        a--;
                    }
                    while (z < n && side(afterN0[z]) == -1) {
                        z++;
                    }
                    int one = a < 0 ? before : side(afterN0[a]);
                    int two = z == n ? behind : side(afterN0[z]);
                    k[i] = one == two ? one : own;
                }
            }
            for (int i = 0; i < n; i++) {
                int up = own == 0 ? (k[i] == R ? 1 : k[i] == L ? 0 : 2) : k[i] == R ? 0 : 1;
                kind[q.get(i)] = k[i];
                level[q.get(i)] = depth[q.get(i)] + up;
            }
        }

        static int side(int k) {
            return k == L ? L : k == R || k == EN || k == AN ? R : -1;
        }

        void weak(List<Integer> q, int[] k, int before) {
            int n = k.length;
            for (int i = 0; i < n; i++) {
                if (k[i] == NSM) {
                    int f = i == 0 ? -1 : first[q.get(i - 1)];
                    k[i] = isolate(f) || f == PDI ? ON : i == 0 ? before : k[i - 1];
                }
            }
            for (int i = 0; i < n; i++) {
                int j = i - 1;
                while (j >= 0 && k[j] > AL) {
                    j--;
                }
                if (k[i] == EN && j >= 0 && k[j] == AL) {
                    k[i] = AN;
                }
            }
            for (int i = 0; i < n; i++) {
                k[i] = k[i] == AL ? R : k[i];
            }
            for (int i = 1; i < n - 1; i++) {
                if (k[i - 1] == k[i + 1]) {
                    int number = k[i - 1];
                    if (k[i] == ES && number == EN || k[i] == CS && (number == EN || number == AN)) {
                        k[i] = number;
                    }
                }
            }
            int[] was = k.clone();
            for (int i = 0; i < n; i++) {
                int a = i;
                int z = i;
                while (was[i] == ET && a >= 0 && was[a] == ET) {
                    a--;
                }
                while (was[i] == ET && z < n && was[z] == ET) {
                    z++;
                }
                if (was[i] == ET && (a >= 0 && was[a] == EN || z < n && was[z] == EN)) {
                    k[i] = EN;
                }
            }
            for (int i = 0; i < n; i++) {
                k[i] = k[i] == ES || k[i] == ET || k[i] == CS ? ON : k[i];
            }
            for (int i = 0; i < n; i++) {
                int j = i - 1;
                while (j >= 0 && k[j] > R) {
                    j--;
                }
                if (k[i] == EN && (j < 0 ? before : k[j]) == L) {
                    k[i] = L;
                }
            }
        }

        void pairs(List<Integer> q, int[] k, int[] beforeW1, int own, int before) {
            List<int[]> stack = new ArrayList<>();
            List<int[]> found = new ArrayList<>();
            search:
            for (int i = 0; i < k.length; i++) {
                for (int[] b : brackets) {
                    int c = text.get(q.get(i));
                    if (k[i] == ON && c == b[0]) {
                        if (stack.size() == 63) {
                            break search;
                        }
                        stack.add(new int[] {i, b[1]});
                    } else if (k[i] == ON && c == b[1]) {
                        int j = stack.size() - 1;
                        while (j >= 0 && stack.get(j)[1] != c) {
                            j--;
                        }
                        if (j >= 0) {
                            found.add(new int[] {stack.get(j)[0], i});
                            stack = new ArrayList<>(stack.subList(0, j));
                        }
                    }
                }
            }
            found.sort((x, y) -> x[0] - y[0]);
            for (int[] pair : found) {
                boolean same = false;
                boolean other = false;
                for (int i = pair[0] + 1; i < pair[1]; i++) {
                    same |= side(k[i]) == own;
                    other |= side(k[i]) == 1 - own;
                }
                int j = pair[0] - 1;
                while (j >= 0 && side(k[j]) == -1) {
                    j--;
                }
                int context = j < 0 ? before : side(k[j]);
                int got = same ? own : !other ? -1 : context == 1 - own ? 1 - own : own;
                for (int at : pair) {
                    if (got != -1) {
                        k[at] = got;
                        for (int i = at + 1; i < k.length && beforeW1[i] == NSM; i++) {
                            k[i] = got;
                        }
                    }
                }
            }
        }

        String at(int position, int[] row) {
            return !resolved ? STATE : position < 0 || position >= text.size() ? INDEX : "" + row[position];
        }

        String paragraph(int k, int what) {
            if (!resolved) {
                return STATE;
            }
            return k < 0 || k >= paragraphs.size() || what < 0 || what > 3 ? INDEX : "" + paragraphs.get(k)[what];
        }

        String line(int from, int to) {
            if (!resolved) {
                return STATE;
            }
            if (from < 0 || from >= text.size() || to < 1 || to > text.size()) {
                return INDEX;
            }
            for (int[] p : paragraphs) {
                if (from < to && from >= p[0] && to <= p[1]) {
                    show(from, to, p[2]);
                    return "" + seen.size();
                }
            }
            return ARGUMENT;
        }

        void show(int from, int to, int base) {
            seen = new ArrayList<>();
            seenLevel = new HashMap<>();
            for (int i = from; i < to; i++) {
                if (level[i] != -1) {
                    int j = i;
                    while (j < to && (level[j] == -1 || first[j] == WS || isolate(first[j]) || first[j] == PDI)) {
                        j++;
                    }
                    seen.add(i);
                    seenLevel.put(i, j == to || first[j] == S || first[j] == B ? base : level[i]);
                }
            }
            int least = 1000;
            for (int l : seenLevel.values()) {
                least = l % 2 == 1 ? Math.min(least, l) : least;
            }
            for (int l = 126; l >= least; l--) {
                for (int a = 0; a < seen.size(); a++) {
                    int z = a;
                    while (z < seen.size() && seenLevel.get(seen.get(z)) >= l) {
                        z++;
                    }
                    Collections.reverse(seen.subList(a, z));
                    a = z;
                }
            }
        }

        String seen(int k, int what) {
            if (!resolved || seen == null) {
                return STATE;
            }
            if (k < 0 || k >= seen.size() || what < 0 || what > 2) {
                return INDEX;
            }
            int position = seen.get(k);
            int c = text.get(position);
            if (what == 2 && seenLevel.get(position) % 2 == 1) {
                for (int[] m : mirrors) {
                    if (m[0] == c || m[1] == c) {
                        return "" + (m[0] == c ? m[1] : m[0]);
                    }
                }
            }
            return "" + (what == 0 ? position : what == 1 ? seenLevel.get(position) : c);
        }

        String place(int position) {
            if (!resolved || seen == null) {
                return STATE;
            }
            return position < 0 || position >= text.size() ? INDEX : "" + seen.indexOf(position);
        }
    }

    /** A call on the class, as an answer of the model's form. */
    private interface Call {
        int answer();
    }

    private static String ask(Call call) {
        try {
            return "" + call.answer();
        } catch (RuntimeException e) {
            // The class of the exception itself, so that the machine's own subclasses are seen as wrong.
            return "throws." + e.getClass().getSimpleName();
        }
    }

    private static String tell(Runnable call) {
        String answer = ask(() -> {
            call.run();
            return 0;
        });
        return answer.equals("0") ? "void" : answer;
    }

    private static long seed = 7L;
    private static int wrong = 0;
    private static int compared = 0;
    private static List<String> said;

    private static int below(int bound) {
        seed = seed * 6364136223846793005L + 1442695040888963407L;
        return (int) ((seed >>> 33) % bound);
    }

    private static boolean due(String call, String got, String want) {
        compared++;
        said.add(call + " -> " + got);
        if (!got.equals(want)) {
            wrong++;
            if (wrong <= 5) {
                System.out.println(said);
                System.out.println(call + " answered " + got + ", due is " + want);
            }
            return false;
        }
        return true;
    }

    private static BidiLevels x;
    private static Model m;

    private static boolean property(int f, int l, int k) {
        BidiLevels o = x;
        return due("property(" + f + ", " + l + ", " + k + ")", tell(() -> o.property(f, l, k)), m.property(f, l, k));
    }

    private static boolean bracket(int a, int b) {
        BidiLevels o = x;
        return due("bracket(" + a + ", " + b + ")", tell(() -> o.bracket(a, b)), m.pair(m.brackets, a, b));
    }

    private static boolean mirror(int a, int b) {
        BidiLevels o = x;
        return due("mirror(" + a + ", " + b + ")", tell(() -> o.mirror(a, b)), m.pair(m.mirrors, a, b));
    }

    private static boolean add(int... c) {
        BidiLevels o = x;
        return due("add" + Arrays.toString(c), ask(() -> o.add(c[0], c[1], c[2], c[3], c[4])), m.add(c));
    }

    private static boolean resolve(int base) {
        BidiLevels o = x;
        return due("resolve(" + base + ")", ask(() -> o.resolve(base)), m.resolve(base));
    }

    private static boolean line(int from, int to) {
        BidiLevels o = x;
        return due("line(" + from + ", " + to + ")", ask(() -> o.line(from, to)), m.line(from, to));
    }

    private static boolean askPosition(int i) {
        BidiLevels o = x;
        return due("level(" + i + ")", ask(() -> o.level(i)), m.at(i, m.level))
                && due("kind(" + i + ")", ask(() -> o.kind(i)), m.at(i, m.kind))
                && due("match(" + i + ")", ask(() -> o.match(i)), m.at(i, m.match));
    }

    private static boolean askSeen(int k, int what) {
        BidiLevels o = x;
        return due("seen(" + k + ", " + what + ")", ask(() -> o.seen(k, what)), m.seen(k, what));
    }

    private static boolean askPlace(int i) {
        BidiLevels o = x;
        return due("place(" + i + ")", ask(() -> o.place(i)), m.place(i));
    }

    private static boolean askParagraph(int k, int what) {
        BidiLevels o = x;
        return due("paragraph(" + k + ", " + what + ")", ask(() -> o.paragraph(k, what)), m.paragraph(k, what));
    }

    /** An object answers as promised for no more calls than that. */
    private static int callsLeft() {
        return 512 - said.size();
    }

    /** Everything, from a random place on, until only so many calls are left. */
    private static boolean askAll(int callsKept) {
        boolean good = true;
        int paragraphs = m.paragraphs.size() + 2;
        int firstParagraph = below(paragraphs);
        for (int i = 0; good && i < Math.min(paragraphs, 12); i++) {
            int k = (firstParagraph + i) % paragraphs - 1;
            for (int what = -1; good && what <= 4; what++) {
                good = askParagraph(k, what);
            }
        }
        int positions = m.text.size() + 2;
        int firstPosition = below(positions);
        for (int i = 0; good && i < positions && callsLeft() >= callsKept + 9; i++) {
            int at = (firstPosition + i) % positions - 1;
            good = askPosition(at) && askPlace(at);
            for (int what = -1; good && what <= 3; what++) {
                good = askSeen(at, what);
            }
        }
        return good;
    }

    private static void start() {
        x = new BidiLevels();
        m = new Model();
        said = new ArrayList<>();
    }

    /** Classes of the characters 0 .. 45: 23 plain ones, and brackets that are mostly ON. */
    private static boolean tellClasses() {
        boolean good = true;
        for (int k = 0; k < 23; k++) {
            good = good && property(k, k, k);
        }
        good = good && property(23, 30, 13) && bracket(23, 24) && bracket(25, 26) && mirror(23, 24) && mirror(0, 1);
        if (below(4) == 0) {
            good = good && property(23 + below(8), 30, below(23));
        }
        if (below(4) == 0) {
            int sign = 23 + below(4);
            good = good && property(sign, sign, NSM);
        }
        if (below(4) == 0) {
            good = good && bracket(27, 28) && mirror(27, 29);
        }
        return good;
    }

    private static int[] five(int[] alphabet, int some) {
        int[] c = new int[5];
        for (int i = 0; i < 5; i++) {
            c[i] = i < some ? alphabet[below(alphabet.length)] : -1;
        }
        return c;
    }

    private static int[] alphabet() {
        int[] letters = new int[2 + below(25)];
        for (int i = 0; i < letters.length; i++) {
            letters[i] = below(31);
            if ((letters[i] == B || letters[i] == S) && below(3) > 0) {
                letters[i] = below(2);
            }
        }
        return letters;
    }

    /** One text, then everything that can be asked of it. */
    private static void textRun(int adds) {
        start();
        boolean good = tellClasses();
        int[] letters = alphabet();
        for (int i = 0; good && i < adds; i++) {
            good = add(five(letters, i + 1 < adds ? 5 : 1 + below(5)));
        }
        good = good && resolve(below(3));
        int n = m.text.size();
        int[] p = n == 0 ? new int[4] : m.paragraphs.get(below(m.paragraphs.size()));
        good = good && line(p[0], p[1]) && askAll(100);
        for (int i = 0; good && i < 3 && callsLeft() >= 4; i++) {
            int from = p[0] + below(p[1] - p[0]);
            good = line(from, from + 1 + below(p[1] - from));
            for (int k = 0; good && k <= m.seen.size() && callsLeft() >= 3; k++) {
                good = askSeen(k, 0) && askSeen(k, 1) && askSeen(k, 2);
            }
        }
    }

    private static int odd(int usual) {
        int[] edges = {-2147483648, -2, -1, 0, 1, 2000, 1114111, 1114112, 2147483647};
        return below(12) == 0 ? edges[below(edges.length)] : usual;
    }

    private static boolean oneCall() {
        BidiLevels o = x;
        int n = m.text.size();
        switch (below(14)) {
            case 0:
                return below(4) > 0 || property(odd(below(31)), odd(31), odd(below(24)));
            case 1:
                return below(4) > 0 || bracket(odd(below(31)), odd(below(31)));
            case 2:
                return below(4) > 0 || mirror(odd(below(31)), odd(below(31)));
            case 3:
                return add(odd(below(31)), odd(below(31)), odd(below(31)), odd(below(31)), odd(below(31)));
            case 4:
                return below(6) > 0 || due("clear()", ask(o::clear), m.clear());
            case 5:
            case 6:
                return resolve(odd(below(3)));
            case 7:
            case 8:
                int from = odd(below(n + 1));
                return line(from, odd(from + below(6)));
            case 9:
                return askParagraph(odd(below(3)), odd(below(5)));
            case 10:
                return askPosition(odd(below(n + 1)));
            case 11:
            case 12:
                return askSeen(odd(below(n + 1)), odd(below(4)));
            default:
                return askPlace(odd(below(n + 1)));
        }
    }

    /** Calls of every kind in any order, wrong ones too. */
    private static void mixedRun() {
        start();
        boolean good = below(2) == 0 || tellClasses();
        for (int i = 0; good && i < 400 && callsLeft() >= 3; i++) {
            good = oneCall();
        }
    }

    /** Levels up to 125 and beyond, and back. */
    private static void deepRun() {
        start();
        boolean good = tellClasses();
        int[] openers = {LRE, LRO, RLE, RLO, LRI, RLI, FSI, LRI, RLI, L, R, EN, ON, NSM, 23, 24};
        int[] closers = {PDF, PDF, PDI, PDI, L, R, AN, ON, NSM, RLI, 23, 24};
        int some = 1 + below(openers.length);
        int[] used = Arrays.copyOf(openers, some);
        for (int i = 0; good && i < 60; i++) {
            good = add(five(used, 5));
        }
        for (int i = 0; good && i < 40; i++) {
            good = add(five(closers, 5));
        }
        good = good && resolve(below(3)) && line(0, m.text.size()) && askAll(0);
    }

    /** Brackets about the 63 that may wait. */
    private static void bracketRun() {
        start();
        boolean good = tellClasses();
        int openings = 60 + below(8);
        int[] some = {23, 24, 25, 26, L, R, EN, NSM, ON};
        good = good && add(23, below(2), 24, -1, -1);
        for (int i = 0; good && i < openings; i++) {
            good = add(below(9) == 0 ? 25 : 23, below(20) == 0 ? below(2) : -1, -1, -1, -1);
        }
        for (int i = 0; good && i < 20; i++) {
            good = add(24, below(6) == 0 ? 26 : 24, some[below(some.length)], 24, 24);
        }
        good = good && resolve(below(3)) && line(0, m.text.size()) && askAll(0);
    }

    /** A text of 2000, where every row is used to its end; no FSI, for which the model is too slow there. */
    private static void fullRun() {
        start();
        boolean good = tellClasses();
        int[] letters = below(4) == 0 ? new int[] {below(23), below(31)} : alphabet();
        for (int i = 0; i < letters.length; i++) {
            letters[i] = letters[i] == FSI ? LRI : letters[i];
        }
        for (int i = 0; good && i < 400; i++) {
            good = add(five(letters, 5));
        }
        good = good && add(0, -1, -1, -1, -1) && resolve(below(3));
        int[] longest = {0, 0};
        for (int[] p : m.paragraphs) {
            longest = p[1] - p[0] > longest[1] - longest[0] ? p : longest;
        }
        good = good && line(longest[0], longest[1]) && askParagraph(m.paragraphs.size() - 1, below(4));
        while (good && callsLeft() >= 7) {
            int at = longest[0] + below(longest[1] - longest[0]);
            int k = below(m.seen.size() + 1);
            good = askPosition(at) && askPlace(at) && askSeen(k, 0) && askSeen(k, 1) && askSeen(k, 2);
        }
    }

    public static void main(String[] args) {
        for (int i = 0; i < 12000; i++) {
            textRun(1 + below(i % 20 == 0 ? 12 : 4));
        }
        for (int i = 0; i < 200; i++) {
            fullRun();
        }
        for (int i = 0; i < 3000; i++) {
            mixedRun();
        }
        for (int i = 0; i < 600; i++) {
            deepRun();
            bracketRun();
        }
        System.out.println(compared + " answers compared, " + wrong + " wrong");
        if (wrong != 0) {
            System.exit(1);
        }
    }
}
