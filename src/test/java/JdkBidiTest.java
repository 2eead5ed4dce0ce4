import java.text.Bidi;

/**
 * Random paragraphs, levels beside those of java.text.Bidi, which follows the same rules for real characters.
 * For text of one direction it tells that direction alone. It is older than two of the rules (isolates under an
 * override, marks behind brackets), so no text here has both of such a pair; ModelTest has them.
 */
public final class JdkBidiTest {
    private static final int[][] SIGNS = {
        {'a', 0}, {0x5D0, 1}, {0x627, 2}, {'1', 3}, {'+', 4}, {'$', 5}, {0x663, 6}, {',', 7}, {0x301, 8},
        {0x200B, 9}, {'\t', 11}, {' ', 12}, {'!', 13}, {0x202A, 14}, {0x202D, 15}, {0x202B, 16},
        {0x202E, 17}, {0x202C, 18}, {0x2066, 19}, {0x2067, 20}, {0x2068, 21}, {0x2069, 22},
        {'(', 13}, {')', 13}, {'[', 13}, {']', 13}};
    private static long seed = 20261115L;
    private static int wrong = 0;
    private static int compared = 0;

    private static int below(int bound) {
        seed = seed * 6364136223846793005L + 1442695040888963407L;
        return (int) ((seed >>> 33) % bound);
    }

    public static void main(String[] args) {
        for (int round = 0; round < 100000; round++) {
            compareOne(randomText(round));
        }
        System.out.println(compared + " characters compared, " + wrong + " wrong");
        if (wrong != 0) {
            System.exit(1);
        }
    }

    private static char[] randomText(int round) {
        char[] text = new char[1 + below(round % 10 == 0 ? 60 : 14)];
        int kinds = 2 + below(SIGNS.length - 1);
        int shift = below(SIGNS.length);
        boolean overrides = below(2) == 0;
        boolean marks = below(2) == 0;
        for (int i = 0; i < text.length; i++) {
            int[] sign = SIGNS[(below(kinds) * 7 + shift) % SIGNS.length];
            boolean left = overrides ? sign[1] < 19 : sign[1] != 15 && sign[1] != 17;
            left = left && (marks ? sign[1] != 13 || sign[0] == '!' : sign[1] != 8);
            text[i] = (char) (left ? sign[0] : ' ');
        }
        return text;
    }

    private static void compareOne(char[] text) {
        int base = below(3);
        Bidi jdk = new Bidi(text, 0, null, 0, text.length, base == 2 ? Bidi.DIRECTION_DEFAULT_LEFT_TO_RIGHT : base);
        BidiLevels ours = new BidiLevels();
        for (int[] sign : SIGNS) {
            ours.property(sign[0], sign[0], sign[1]);
        }
        ours.bracket('(', ')');
        ours.bracket('[', ']');
        for (char c : text) {
            ours.add(c, -1, -1, -1, -1);
        }
        ours.resolve(base);
        ours.line(0, text.length);
        for (int i = 0; i < text.length; i++) {
            int place = ours.place(i);
            if (place != BidiLevels.NONE) {
                compared++;
                int level = ours.seen(place, 1);
                if (jdk.isMixed() ? level != jdk.getLevelAt(i) : (level & 1) != jdk.getLevelAt(i)) {
                    wrong++;
                    report(text, base, i, level, jdk.getLevelAt(i));
                    return;
                }
            }
        }
        compareOrder(ours, text.length);
    }

    private static void compareOrder(BidiLevels ours, int length) {
        byte[] levels = new byte[length];
        Integer[] order = new Integer[length];
        int left = 0;
        for (int i = 0; i < length; i++) {
            if (ours.place(i) != BidiLevels.NONE) {
                levels[left] = (byte) ours.seen(ours.place(i), 1);
                order[left] = i;
                left++;
            }
        }
        Bidi.reorderVisually(levels, 0, order, 0, left);
        for (int k = 0; k < left; k++) {
            if (ours.seen(k, 0) != order[k]) {
                wrong++;
                System.out.println("seen " + k + " is " + ours.seen(k, 0) + ", due is " + order[k]);
                return;
            }
        }
    }

    private static void report(char[] text, int base, int i, int level, int due) {
        if (wrong > 20) {
            return;
        }
        StringBuilder said = new StringBuilder();
        for (char c : text) {
            said.append(Integer.toHexString(c)).append(' ');
        }
        System.out.println("base " + base + ", text " + said + ": at " + i + " level " + level + ", due is " + due);
    }
}
