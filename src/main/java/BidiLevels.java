/** Levels and the seen order of mixed text; the document ../shared/DOC.md says what each call promises. */
public final class BidiLevels {
    public static final int NONE = -1;

    private static final int L = 0;
    private static final int R = 1;
    private static final int AL = 2;
    private static final int EN = 3;
    private static final int ES = 4;
    private static final int ET = 5;
    private static final int AN = 6;
    private static final int CS = 7;
    private static final int NSM = 8;
    private static final int BN = 9;
    private static final int B = 10;
    private static final int S = 11;
    private static final int WS = 12;
    private static final int ON = 13;
    private static final int LRE = 14;
    private static final int LRO = 15;
    private static final int RLE = 16;
    private static final int RLO = 17;
    private static final int PDF = 18;
    private static final int LRI = 19;
    private static final int RLI = 20;
    private static final int FSI = 21;
    private static final int PDI = 22;

    private static final int LAST_CHARACTER = 1114111;
    private static final int MOST_TEXT = 2000;
    private static final int MOST_RANGES = 100;
    private static final int MOST_PAIRS = 40;
    private static final int MOST_LEVEL = 125;
    private static final int MOST_ENTRIES = MOST_LEVEL + 2;
    private static final int MOST_OPEN_BRACKETS = 63;
    private static final int BASE_BY_TEXT = 2;

    private final Text text;
    private final Pairs brackets;
    private final Pairs mirrors;
    private final Resolver resolver;
    private final Line shown;
    private boolean resolved;
    private boolean lined;

    public BidiLevels() {
        text = new Text();
        brackets = new Pairs();
        mirrors = new Pairs();
        resolver = new Resolver(text, brackets);
        shown = new Line(text);
        resolved = false;
        lined = false;
    }

    public void property(int first, int last, int kind) throws IllegalArgumentException, IllegalStateException {
        if (!isCharacter(first) || !isCharacter(last) || first > last) {
            throw new IllegalArgumentException("no range of characters");
        }
        if (kind < L || kind > PDI) {
            throw new IllegalArgumentException("no such class");
        }
        if (text.rangeCount >= MOST_RANGES) {
            throw new IllegalStateException("there are 100 ranges");
        }
        text.tellRange(first, last, kind);
        forgetLevels();
    }

    public void bracket(int opening, int closing) throws IllegalArgumentException, IllegalStateException {
        tellPair(brackets, opening, closing);
    }

    public void mirror(int one, int other) throws IllegalArgumentException, IllegalStateException {
        tellPair(mirrors, one, other);
    }

    public int add(int a, int b, int c, int d, int e) throws IllegalArgumentException, IllegalStateException {
        int[] given = {a, b, c, d, e};
        int more = 0;
        while (more < given.length && given[more] != NONE) {
            if (!isCharacter(given[more])) {
                throw new IllegalArgumentException("no character");
            }
            more++;
        }
        if (text.count + more > MOST_TEXT) {
            throw new IllegalStateException("there would be more than 2000 characters");
        }
        for (int i = 0; i < more; i++) {
            text.append(given[i]);
        }
        forgetLevels();
        return text.count;
    }

    public int clear() {
        int had = text.count;
        text.count = 0;
        forgetLevels();
        return had;
    }

    public int resolve(int base) throws IllegalArgumentException {
        if (base < 0 || base > BASE_BY_TEXT) {
            throw new IllegalArgumentException("no such base");
        }
        resolver.resolveText(base);
        resolved = true;
        lined = false;
        return resolver.paragraphs;
    }

    public int paragraph(int k, int what) throws IllegalStateException, IndexOutOfBoundsException {
        needLevels();
        if (k < 0 || k >= resolver.paragraphs) {
            throw new IndexOutOfBoundsException("no such paragraph");
        }
        switch (what) {
            case 0:
                return resolver.begins[k];
            case 1:
                return resolver.ends[k];
            case 2:
                return resolver.bases[k];
            case 3:
                return resolver.sequences[k];
            default:
                throw new IndexOutOfBoundsException("no such what");
        }
    }

    public int level(int position) throws IllegalStateException, IndexOutOfBoundsException {
        needLevels();
        needPosition(position);
        return text.levels[position];
    }

    public int kind(int position) throws IllegalStateException, IndexOutOfBoundsException {
        needLevels();
        needPosition(position);
        return text.kinds[position];
    }

    public int match(int position) throws IllegalStateException, IndexOutOfBoundsException {
        needLevels();
        needPosition(position);
        return text.matches[position];
    }

    public int line(int from, int to)
            throws IllegalStateException, IndexOutOfBoundsException, IllegalArgumentException {
        needLevels();
        needPosition(from);
        if (to < 1 || to > text.count) {
            throw new IndexOutOfBoundsException("no position behind one");
        }
        if (from >= to) {
            throw new IllegalArgumentException("the line would be empty");
        }
        int k = resolver.paragraphWith(from);
        if (k == NONE || to > resolver.ends[k]) {
            throw new IllegalArgumentException("not in one paragraph");
        }
        shown.show(from, to, resolver.bases[k]);
        lined = true;
        return shown.count;
    }

    public int seen(int k, int what) throws IllegalStateException, IndexOutOfBoundsException {
        needLine();
        if (k < 0 || k >= shown.count) {
            throw new IndexOutOfBoundsException("no such character seen");
        }
        int position = shown.order[k];
        switch (what) {
            case 0:
                return position;
            case 1:
                return shown.levels[position];
            case 2:
                return asSeen(position);
            default:
                throw new IndexOutOfBoundsException("no such what");
        }
    }

    public int place(int position) throws IllegalStateException, IndexOutOfBoundsException {
        needLine();
        needPosition(position);
        return shown.places[position];
    }

    private void tellPair(Pairs pairs, int one, int other) {
        if (!isCharacter(one) || !isCharacter(other) || one == other) {
            throw new IllegalArgumentException("not two characters");
        }
        if (pairs.has(one) || pairs.has(other)) {
            throw new IllegalArgumentException("one is in a pair already");
        }
        if (pairs.count >= MOST_PAIRS) {
            throw new IllegalStateException("there are 40 pairs");
        }
        pairs.tell(one, other);
        forgetLevels();
    }

    private void forgetLevels() {
        resolved = false;
        lined = false;
    }

    private void needLevels() {
        if (!resolved) {
            throw new IllegalStateException("not resolved");
        }
    }

    /** There is a line only while the text is resolved. */
    private void needLine() {
        if (!lined) {
            throw new IllegalStateException("no line was asked for");
        }
    }

    private void needPosition(int position) {
        if (position < 0 || position >= text.count) {
            throw new IndexOutOfBoundsException("no such position");
        }
    }

    private int asSeen(int position) {
        int character = text.characters[position];
        int mirrored = mirrors.partnerOf(character);
        return isOdd(shown.levels[position]) && mirrored != NONE ? mirrored : character;
    }

    private static boolean isCharacter(int number) {
        return number >= 0 && number <= LAST_CHARACTER;
    }

    private static boolean isEmbedding(int kind) {
        return kind >= LRE && kind <= RLO;
    }

    private static boolean isIsolate(int kind) {
        return kind >= LRI && kind <= FSI;
    }

    private static boolean isOdd(int level) {
        return (level & 1) == 1;
    }

    private static int directionOf(int level) {
        return (level & 1) == 1 ? R : L;
    }

    /** The characters, what is known of each, and the ranges that tell their classes. */
    private static final class Text {
        final int[] characters = new int[MOST_TEXT];
        /** The classes as told; kinds are what the rules have made of them. */
        final int[] firsts = new int[MOST_TEXT];
        final int[] kinds = new int[MOST_TEXT];
        final int[] levels = new int[MOST_TEXT];
        final int[] matches = new int[MOST_TEXT];
        int count = 0;

        private final int[] rangeFirsts = new int[MOST_RANGES];
        private final int[] rangeLasts = new int[MOST_RANGES];
        private final int[] rangeKinds = new int[MOST_RANGES];
        int rangeCount = 0;

        /** Classes are kept up to date here, so that resolving often need not look through the ranges. */
        void tellRange(int first, int last, int kind) {
            if (rangeCount >= MOST_RANGES) {
                return;
            }
            rangeFirsts[rangeCount] = first;
            rangeLasts[rangeCount] = last;
            rangeKinds[rangeCount] = kind;
            rangeCount++;
            for (int i = 0; i < count; i++) {
                if (characters[i] >= first && characters[i] <= last) {
                    firsts[i] = kind;
                }
            }
        }

        void append(int character) {
            if (count >= MOST_TEXT) {
                return;
            }
            characters[count] = character;
            firsts[count] = classOf(character);
            count++;
        }

        private int classOf(int character) {
            for (int i = rangeCount - 1; i >= 0; i--) {
                if (character >= rangeFirsts[i] && character <= rangeLasts[i]) {
                    return rangeKinds[i];
                }
            }
            return L;
        }
    }

    /** Pairs of characters, no character in two of them: brackets, or mirrors. */
    private static final class Pairs {
        private final int[] ones = new int[MOST_PAIRS];
        private final int[] others = new int[MOST_PAIRS];
        int count = 0;

        void tell(int one, int other) {
            if (count >= MOST_PAIRS) {
                return;
            }
            ones[count] = one;
            others[count] = other;
            count++;
        }

        boolean has(int character) {
            return partnerOf(character) != NONE;
        }

        int partnerOf(int character) {
            int other = otherOf(character);
            return other != NONE ? other : oneOf(character);
        }

        int otherOf(int one) {
            for (int i = 0; i < count; i++) {
                if (ones[i] == one) {
                    return others[i];
                }
            }
            return NONE;
        }

        int oneOf(int other) {
            for (int i = 0; i < count; i++) {
                if (others[i] == other) {
                    return ones[i];
                }
            }
            return NONE;
        }
    }

    /** RESOLVING: the paragraphs of the text, and each one's levels and classes. */
    private static final class Resolver {
        final int[] begins = new int[MOST_TEXT];
        final int[] ends = new int[MOST_TEXT];
        final int[] bases = new int[MOST_TEXT];
        final int[] sequences = new int[MOST_TEXT];
        int paragraphs = 0;

        private final Text text;
        private final Isolates isolates;
        private final Explicit explicit;
        private final Runs runs;
        private final Sequence sequence;
        private final WeakRules weakRules;
        private final BracketRule bracketRule;

        Resolver(Text text, Pairs brackets) {
            this.text = text;
            isolates = new Isolates(text);
            explicit = new Explicit(text, isolates);
            runs = new Runs(text);
            sequence = new Sequence(text);
            weakRules = new WeakRules(text, sequence);
            bracketRule = new BracketRule(text, sequence, brackets);
        }

        void resolveText(int toldBase) {
            findParagraphs();
            for (int k = 0; k < paragraphs; k++) {
                int begin = begins[k];
                int end = ends[k];
                isolates.findMatches(begin, end);
                bases[k] = toldBase == BASE_BY_TEXT ? isolates.directionIn(begin, end) : toldBase;
                explicit.giveLevels(begin, end, bases[k]);
                runs.findRuns(begin, end);
                sequences[k] = resolveSequences(bases[k]);
                raiseLevels(begin, end);
            }
        }

        private void findParagraphs() {
            paragraphs = 0;
            int begin = 0;
            for (int i = 0; i < text.count; i++) {
                if (text.firsts[i] == B || i + 1 == text.count) {
                    begins[paragraphs] = begin;
                    ends[paragraphs] = i + 1;
                    paragraphs++;
                    begin = i + 1;
                }
            }
        }

        int paragraphWith(int position) {
            for (int k = 0; k < paragraphs; k++) {
                if (position < ends[k]) {
                    return k;
                }
            }
            return NONE;
        }

        private int resolveSequences(int base) {
            int found = 0;
            for (int run = 0; run < runs.count; run++) {
                if (runs.beginsSequence(run)) {
                    runs.gather(run, base, sequence);
                    weakRules.apply();
                    bracketRule.apply();
                    sequence.settleNeutrals();
                    sequence.writeKinds();
                    found++;
                }
            }
            return found;
        }

        /** Only when all sequences are done: what stands BEFORE and BEHIND them goes by the levels without this. */
        private void raiseLevels(int begin, int end) {
            for (int i = begin; i < end; i++) {
                if (text.levels[i] != NONE) {
                    text.levels[i] += raiseOf(text.levels[i], text.kinds[i]);
                }
            }
        }

        private static int raiseOf(int level, int kind) {
            boolean number = kind == EN || kind == AN;
            if (isOdd(level)) {
                return kind == L || number ? 1 : 0;
            }
            if (number) {
                return 2;
            }
            return kind == R ? 1 : 0;
        }
    }

    /** The matches of isolates, and the FIRST STRONG of parts of the text. */
    private static final class Isolates {
        private final Text text;
        private final int[] waiting = new int[MOST_TEXT];

        Isolates(Text text) {
            this.text = text;
        }

        void findMatches(int begin, int end) {
            int open = 0;
            for (int i = begin; i < end; i++) {
                text.matches[i] = NONE;
                if (isIsolate(text.firsts[i])) {
                    waiting[open] = i;
                    open++;
                } else if (text.firsts[i] == PDI && open > 0) {
                    open--;
                    text.matches[i] = waiting[open];
                    text.matches[waiting[open]] = i;
                }
            }
        }

        /** R if the FIRST STRONG is R or AL, else L; these numbers are the base levels, too. */
        int directionIn(int begin, int end) {
            for (int i = begin; i < end; i++) {
                int first = text.firsts[i];
                if (first == L) {
                    return L;
                }
                if (first == R || first == AL) {
                    return R;
                }
                if (isIsolate(first)) {
                    i = Math.max(i, text.matches[i] == NONE ? end : text.matches[i]);
                }
            }
            return L;
        }

        /** As what an isolate acts, an FSI by what is in it. */
        int directionOfIsolate(int position, int paragraphEnd) {
            int first = text.firsts[position];
            if (first == FSI) {
                int found = text.matches[position];
                return directionIn(position + 1, found == NONE ? paragraphEnd : found);
            }
            return first == RLI ? R : L;
        }
    }

    /** EXPLICIT LEVELS: the stack of embeddings and isolates, on the way through one paragraph. */
    private static final class Explicit {
        private final Text text;
        private final Isolates isolates;
        private final int[] entryLevels = new int[MOST_ENTRIES];
        private final int[] entryOverrides = new int[MOST_ENTRIES];
        private final boolean[] entryIsolates = new boolean[MOST_ENTRIES];
        private int top = 0;
        private int lostIsolates = 0;
        private int lostEmbeddings = 0;
        private int openIsolates = 0;

        Explicit(Text text, Isolates isolates) {
            this.text = text;
            this.isolates = isolates;
        }

        void giveLevels(int begin, int end, int base) {
            top = 0;
            entryLevels[0] = base;
            entryOverrides[0] = NONE;
            entryIsolates[0] = false;
            lostIsolates = 0;
            lostEmbeddings = 0;
            openIsolates = 0;
            for (int i = begin; i < end; i++) {
                giveLevel(i, end, base);
            }
        }

        private void giveLevel(int position, int end, int base) {
            int first = text.firsts[position];
            if (isEmbedding(first)) {
                openEmbedding(first);
                remove(position);
            } else if (isIsolate(first)) {
                takeTop(position);
                openIsolate(isolates.directionOfIsolate(position, end));
            } else if (first == PDI) {
                closeIsolate();
                takeTop(position);
            } else if (first == PDF) {
                closeEmbedding();
                remove(position);
            } else if (first == BN) {
                remove(position);
            } else if (first == B) {
                text.levels[position] = base;
                text.kinds[position] = B;
            } else {
                takeTop(position);
            }
        }

        private void remove(int position) {
            text.levels[position] = NONE;
            text.kinds[position] = NONE;
        }

        private void takeTop(int position) {
            int override = entryOverrides[top];
            text.levels[position] = entryLevels[top];
            text.kinds[position] = override == NONE ? text.firsts[position] : override;
        }

        private void openEmbedding(int first) {
            int next = nextLevel(first == RLE || first == RLO ? R : L);
            if (canOpen(next)) {
                int override = first == RLO ? R : first == LRO ? L : NONE;
                push(next, override, false);
            } else if (lostIsolates == 0) {
                lostEmbeddings++;
            }
        }

        private void openIsolate(int direction) {
            int next = nextLevel(direction);
            if (canOpen(next)) {
                openIsolates++;
                push(next, NONE, true);
            } else {
                lostIsolates++;
            }
        }

        private void closeIsolate() {
            if (lostIsolates > 0) {
                lostIsolates--;
            } else if (openIsolates > 0) {
                lostEmbeddings = 0;
                while (top > 0 && !entryIsolates[top]) {
                    top--;
                }
                top = Math.max(top - 1, 0);
                openIsolates--;
            }
        }

        private void closeEmbedding() {
            if (lostIsolates > 0) {
                return;
            }
            if (lostEmbeddings > 0) {
                lostEmbeddings--;
            } else if (top > 0 && !entryIsolates[top]) {
                top--;
            }
        }

        private int nextLevel(int direction) {
            int above = entryLevels[top] + 1;
            return directionOf(above) == direction ? above : above + 1;
        }

        private boolean canOpen(int next) {
            return next <= MOST_LEVEL && lostIsolates == 0 && lostEmbeddings == 0;
        }

        private void push(int level, int override, boolean isolate) {
            if (top + 1 >= MOST_ENTRIES) {
                return;
            }
            top++;
            entryLevels[top] = level;
            entryOverrides[top] = override;
            entryIsolates[top] = isolate;
        }
    }

    /** The characters of a paragraph that are left, in runs of the same level. */
    private static final class Runs {
        private final Text text;
        private final int[] left = new int[MOST_TEXT];
        private int leftCount = 0;
        /** Bounds of the runs in the row of those left. */
        private final int[] runBegins = new int[MOST_TEXT];
        private final int[] runEnds = new int[MOST_TEXT];
        private final int[] runOf = new int[MOST_TEXT];
        int count = 0;

        Runs(Text text) {
            this.text = text;
        }

        void findRuns(int begin, int end) {
            leftCount = 0;
            count = 0;
            for (int i = begin; i < end; i++) {
                if (text.levels[i] != NONE) {
                    appendLeft(i);
                }
            }
        }

        private void appendLeft(int position) {
            if (leftCount == 0 || text.levels[left[leftCount - 1]] != text.levels[position]) {
                runBegins[count] = leftCount;
                count++;
            }
            left[leftCount] = position;
            leftCount++;
            runEnds[count - 1] = leftCount;
            runOf[position] = count - 1;
        }

        boolean beginsSequence(int run) {
            int position = left[runBegins[run]];
            return text.firsts[position] != PDI || text.matches[position] == NONE;
        }

        void gather(int firstRun, int base, Sequence sequence) {
            int begin = runBegins[firstRun];
            int level = text.levels[left[begin]];
            sequence.startAt(level);
            int run = firstRun;
            int end = begin;
            for (int steps = 0; steps < count && run != NONE; steps++) {
                end = runEnds[run];
                for (int i = runBegins[run]; i < end; i++) {
                    sequence.append(left[i]);
                }
                run = runBehind(run);
            }
            int levelBefore = begin > 0 ? text.levels[left[begin - 1]] : base;
            sequence.before = directionOf(Math.max(level, levelBefore));
            sequence.behind = directionOf(Math.max(level, levelBehind(end, base)));
        }

        private int runBehind(int run) {
            int last = left[runEnds[run] - 1];
            boolean goesOn = isIsolate(text.firsts[last]) && text.matches[last] != NONE;
            return goesOn ? runOf[text.matches[last]] : NONE;
        }

        /** Only an isolate without a match can end a sequence: one with a match has its run behind it. */
        private int levelBehind(int end, int base) {
            boolean endsInIsolate = isIsolate(text.firsts[left[end - 1]]);
            return end < leftCount && !endsInIsolate ? text.levels[left[end]] : base;
        }
    }

    /** The sequence that is worked on: its positions, and what their classes are by now. */
    private static final class Sequence {
        private final Text text;
        final int[] positions = new int[MOST_TEXT];
        final int[] now = new int[MOST_TEXT];
        int length = 0;
        /** The direction of its level, and those BEFORE and BEHIND it. */
        int direction = L;
        int before = L;
        int behind = L;

        Sequence(Text text) {
            this.text = text;
        }

        void startAt(int level) {
            length = 0;
            direction = directionOf(level);
        }

        void append(int position) {
            if (length >= MOST_TEXT) {
                return;
            }
            positions[length] = position;
            now[length] = text.kinds[position];
            length++;
        }

        /** The text keeps the classes before W1 until here. */
        void writeKinds() {
            for (int i = 0; i < length; i++) {
                text.kinds[positions[i]] = now[i];
            }
        }

        boolean isNow(int i, int kind) {
            return i >= 0 && i < length && now[i] == kind;
        }

        boolean wasMark(int i) {
            return i >= 0 && i < length && text.kinds[positions[i]] == NSM;
        }

        /** The direction at a place for N0 and N1, where numbers are R; NONE at a neutral one. */
        int sideAt(int i) {
            if (i < 0) {
                return before;
            }
            if (i >= length) {
                return behind;
            }
            switch (now[i]) {
                case L:
                    return L;
                case R:
                case EN:
                case AN:
                    return R;
                default:
                    return NONE;
            }
        }

        /** N1 and N2; what is neither direction nor number here is one of the classes they speak of. */
        void settleNeutrals() {
            int rowBegin = 0;
            for (int i = 0; i <= length; i++) {
                int side = sideAt(i);
                if (side != NONE) {
                    int settled = sideAt(rowBegin - 1) == side ? side : direction;
                    for (int j = rowBegin; j < i; j++) {
                        now[j] = settled;
                    }
                    rowBegin = i + 1;
                }
            }
        }
    }

    /** W1 to W7. */
    private static final class WeakRules {
        private final Text text;
        private final Sequence row;

        WeakRules(Text text, Sequence row) {
            this.text = text;
            this.row = row;
        }

        void apply() {
            settleMarks();
            arabicNumbers();
            arabicLetters();
            separators();
            terminators();
            restToNeutral();
            latinNumbers();
        }

        private void settleMarks() {
            for (int i = 0; i < row.length; i++) {
                if (row.now[i] == NSM) {
                    row.now[i] = classForMark(i);
                }
            }
        }

        private int classForMark(int i) {
            if (i == 0) {
                return row.before;
            }
            int first = text.firsts[row.positions[i - 1]];
            return isIsolate(first) || first == PDI ? ON : row.now[i - 1];
        }

        private void arabicNumbers() {
            int lastStrong = row.before;
            for (int i = 0; i < row.length; i++) {
                int kind = row.now[i];
                if (kind == L || kind == R || kind == AL) {
                    lastStrong = kind;
                } else if (kind == EN && lastStrong == AL) {
                    row.now[i] = AN;
                }
            }
        }

        private void arabicLetters() {
            for (int i = 0; i < row.length; i++) {
                if (row.now[i] == AL) {
                    row.now[i] = R;
                }
            }
        }

        private void separators() {
            for (int i = 0; i < row.length; i++) {
                int kind = row.now[i];
                if ((kind == ES || kind == CS) && isBetween(i, EN)) {
                    row.now[i] = EN;
                } else if (kind == CS && isBetween(i, AN)) {
                    row.now[i] = AN;
                }
            }
        }

        private boolean isBetween(int i, int number) {
            return row.isNow(i - 1, number) && row.isNow(i + 1, number);
        }

        private void terminators() {
            int rowBegin = 0;
            for (int i = 0; i <= row.length; i++) {
                if (!row.isNow(i, ET)) {
                    if (row.isNow(i, EN) || row.isNow(rowBegin - 1, EN)) {
                        for (int j = rowBegin; j < i; j++) {
                            row.now[j] = EN;
                        }
                    }
                    rowBegin = i + 1;
                }
            }
        }

        private void restToNeutral() {
            for (int i = 0; i < row.length; i++) {
                int kind = row.now[i];
                if (kind == ES || kind == ET || kind == CS) {
                    row.now[i] = ON;
                }
            }
        }

        private void latinNumbers() {
            int lastStrong = row.before;
            for (int i = 0; i < row.length; i++) {
                int kind = row.now[i];
                if (kind == L || kind == R) {
                    lastStrong = kind;
                } else if (kind == EN && lastStrong == L) {
                    row.now[i] = L;
                }
            }
        }
    }

    /** N0. */
    private static final class BracketRule {
        private final Text text;
        private final Sequence row;
        private final Pairs brackets;
        private final int[] openings = new int[MOST_OPEN_BRACKETS];
        private final int[] wanted = new int[MOST_OPEN_BRACKETS];
        private int open = 0;
        /** Where the closing one is, at the index of the opening one, so that pairs come in their order. */
        private final int[] closings = new int[MOST_TEXT];

        BracketRule(Text text, Sequence row, Pairs brackets) {
            this.text = text;
            this.row = row;
            this.brackets = brackets;
        }

        void apply() {
            findPairs();
            for (int i = 0; i < row.length; i++) {
                if (closings[i] != NONE) {
                    settlePair(i, closings[i]);
                }
            }
        }

        private void findPairs() {
            for (int i = 0; i < row.length; i++) {
                closings[i] = NONE;
            }
            open = 0;
            for (int i = 0; i < row.length; i++) {
                if (row.now[i] == ON) {
                    int character = text.characters[row.positions[i]];
                    int closing = brackets.otherOf(character);
                    if (closing == NONE) {
                        closeOne(i, character);
                    } else if (open < MOST_OPEN_BRACKETS) {
                        openings[open] = i;
                        wanted[open] = closing;
                        open++;
                    } else {
                        return;
                    }
                }
            }
        }

        private void closeOne(int i, int character) {
            for (int entry = open - 1; entry >= 0; entry--) {
                if (wanted[entry] == character) {
                    closings[openings[entry]] = i;
                    open = entry;
                    return;
                }
            }
        }

        private void settlePair(int opening, int closing) {
            int inside = sideInside(opening, closing);
            if (inside != NONE) {
                // With the other direction alone inside, what stands before decides: that one, or the level's.
                int direction = inside == row.direction ? inside : sideBefore(opening);
                give(opening, direction);
                give(closing, direction);
            }
        }

        /** The level's direction if it is there, else the other one if that is. */
        private int sideInside(int opening, int closing) {
            int found = NONE;
            for (int i = opening + 1; i < closing; i++) {
                int side = row.sideAt(i);
                if (side == row.direction) {
                    return side;
                }
                if (side != NONE) {
                    found = side;
                }
            }
            return found;
        }

        private int sideBefore(int opening) {
            for (int i = opening - 1; i >= 0; i--) {
                int side = row.sideAt(i);
                if (side != NONE) {
                    return side;
                }
            }
            return row.before;
        }

        private void give(int bracket, int direction) {
            row.now[bracket] = direction;
            for (int i = bracket + 1; i < row.length && row.wasMark(i); i++) {
                row.now[i] = direction;
            }
        }
    }

    /** The LINE asked for last, as it is seen. */
    private static final class Line {
        private final Text text;
        final int[] order = new int[MOST_TEXT];
        final int[] levels = new int[MOST_TEXT];
        final int[] places = new int[MOST_TEXT];
        int count = 0;

        Line(Text text) {
            this.text = text;
        }

        void show(int from, int to, int base) {
            setLevels(from, to, base);
            setOrder(from, to);
            turnRows();
            setPlaces();
        }

        private void setLevels(int from, int to, int base) {
            boolean atEnd = true;
            for (int i = to - 1; i >= from; i--) {
                levels[i] = text.levels[i];
                if (levels[i] != NONE) {
                    int first = text.firsts[i];
                    boolean parts = first == S || first == B;
                    boolean blank = first == WS || isIsolate(first) || first == PDI;
                    atEnd = parts || atEnd && blank;
                    if (atEnd) {
                        levels[i] = base;
                    }
                }
            }
        }

        private void setOrder(int from, int to) {
            count = 0;
            for (int i = from; i < to; i++) {
                if (levels[i] != NONE) {
                    order[count] = i;
                    count++;
                }
            }
        }

        private void turnRows() {
            int highest = NONE;
            int lowestOdd = MOST_LEVEL + 2;
            for (int i = 0; i < count; i++) {
                int level = levels[order[i]];
                highest = Math.max(highest, level);
                if (isOdd(level)) {
                    lowestOdd = Math.min(lowestOdd, level);
                }
            }
            for (int level = highest; level >= lowestOdd; level--) {
                turnRowsFrom(level);
            }
        }

        private void turnRowsFrom(int level) {
            int rowBegin = 0;
            for (int i = 0; i <= count; i++) {
                if (i == count || levels[order[i]] < level) {
                    turn(rowBegin, i - 1);
                    rowBegin = i + 1;
                }
            }
        }

        private void turn(int begin, int last) {
            for (int i = begin, j = last; i < j; i++, j--) {
                int held = order[i];
                order[i] = order[j];
                order[j] = held;
            }
        }

        private void setPlaces() {
            for (int i = 0; i < text.count; i++) {
                places[i] = NONE;
            }
            for (int k = 0; k < count; k++) {
                places[order[k]] = k;
            }
        }
    }
}
