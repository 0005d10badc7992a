import java.util.ArrayList;
import java.util.Arrays;
import java.util.Collections;
import java.util.HashSet;
import java.util.List;
import java.util.NoSuchElementException;
import java.util.Set;

/** The document once more, by trying everything: slow, and with no code shared with the class. */
final class Model {
    private static final int[][] PRODUCTS = products();
    private static final int[] POWERS = powers();
    private static final int[] INVERSES = inverses();

    private final int[] bytes = new int[160];
    private List<List<Integer>> strands = new ArrayList<>();
    private final List<List<Integer>> heap = new ArrayList<>();
    private int size = 0;
    private int fixed = 0;
    private int dropped = 0;
    private int[] decoded = new int[0];
    private int[] erased = new int[0];
    private int[] changed = new int[0];

    boolean load(int i, int b) {
        if (i < 0 || i > 159) {
            return false;
        }
        bytes[i] = Math.floorMod(b, 256);
        return true;
    }

    int write(int n) {
        if (n < 1 || n > 160) {
            return 0;
        }
        strands = new ArrayList<>();
        heap.clear();
        for (int b = 0; 40 * b < n; b++) {
            int[][] block = new int[16][4];
            for (int i = 40 * b; i < 40 * b + 40; i++) {
                block[(i - 40 * b) / 4][i % 4] = i < n ? bytes[i] : 0;
            }
            for (int c = 0; c < 4; c++) {
                int[] column = new int[16];
                for (int s = 0; s < 10; s++) {
                    column[s] = block[s][c];
                }
                int[] word = solved(column, List.of(10, 11, 12, 13, 14, 15), new int[6]);
                for (int s = 10; s < 16; s++) {
                    block[s][c] = word[s];
                }
            }
            for (int s = 0; s < 16; s++) {
                strands.add(strand(b, s, block[s][0], block[s][1], block[s][2], block[s][3]));
            }
        }
        return strands.size();
    }

    int letter(int strand, int i) {
        return has(strand) && i >= 0 && i < 45 ? strands.get(strand).get(i) : -1;
    }

    void clear() {
        heap.clear();
    }

    boolean read(int strand) {
        return has(strand) && added(new ArrayList<>(strands.get(strand)));
    }

    boolean readCut(int strand, int at) {
        if (!has(strand) || at < 0 || at > 32) {
            return false;
        }
        return added(without(strands.get(strand), at));
    }

    boolean readGrown(int strand, int at, int letter) {
        if (!has(strand) || at < 0 || at > 33 || letter < 0 || letter > 3) {
            return false;
        }
        return added(with(strands.get(strand), at, letter));
    }

    boolean forge(long a, long b, int n) {
        if (n < 0 || n > 60) {
            return false;
        }
        return added(forgedRow(a, b, n));
    }

    boolean shuffle(int seed) {
        if (seed < 0) {
            return false;
        }
        long state = seed;
        for (int k = heap.size() - 1; k >= 1; k--) {
            state = (state * 1103515245L + 12345L) % 2147483648L;
            Collections.swap(heap, k, (int) (state / 65536 % (k + 1)));
        }
        return true;
    }

    int heap() {
        return heap.size();
    }

    int decode(int n) {
        if (n < 1 || n > 160) {
            return -1;
        }
        int blocks = (n + 39) / 40;
        size = n;
        fixed = 0;
        List<int[]> good = new ArrayList<>();
        for (List<Integer> row : heap) {
            List<Integer> body = bodyOf(row);
            int[] six = body == null ? null : bytesOf(body);
            if (six != null && six[0] < blocks && six[1] < 16) {
                good.add(six);
                fixed += row.size() == 45 ? 0 : 1;
            }
        }
        List<int[]> alone = new ArrayList<>();
        for (int[] six : good) {
            int same = 0;
            for (int[] other : good) {
                same += six[0] == other[0] && six[1] == other[1] ? 1 : 0;
            }
            if (same == 1) {
                alone.add(six);
            }
        }
        dropped = heap.size() - alone.size();
        decoded = new int[40 * blocks];
        erased = new int[blocks];
        changed = new int[blocks];
        int whole = 1;
        for (int b = 0; b < blocks; b++) {
            whole &= decodeBlock(b, alone);
        }
        return whole;
    }

    int out(int i) {
        if (i < 0 || i >= size) {
            throw new NoSuchElementException();
        }
        return decoded[i];
    }

    int count(int what) {
        return what == 0 ? size : what == 1 ? fixed : what == 2 ? dropped : -1;
    }

    int block(int b, int what) {
        if (b < 0 || b >= erased.length || what < 0 || what > 1) {
            throw new NoSuchElementException();
        }
        return what == 0 ? erased[b] : changed[b];
    }

    int product(int a, int b) {
        return PRODUCTS[Math.floorMod(a, 256)][Math.floorMod(b, 256)];
    }

    /** The letters that forge makes of two longs. */
    static List<Integer> forgedRow(long a, long b, int n) {
        List<Integer> row = new ArrayList<>();
        for (int i = 0; i < n; i++) {
            long rest = i < 32 ? a : b;
            for (int step = 0; step < i % 32; step++) {
                rest = Math.floorDiv(rest, 4L);
            }
            row.add((int) Math.floorMod(rest, 4L));
        }
        return row;
    }

    /** A whole strand that says these six bytes. */
    static List<Integer> strand(int... six) {
        List<Integer> row = new ArrayList<>();
        int before = 3;
        for (int group = 0; group < 3; group++) {
            StringBuilder digits = new StringBuilder(Integer.toString(256 * six[2 * group] + six[2 * group + 1], 3));
            while (digits.length() < 11) {
                digits.insert(0, '0');
            }
            for (int i = 0; i < 11; i++) {
                List<Integer> others = new ArrayList<>(List.of(0, 1, 2, 3));
                others.remove(Integer.valueOf(before));
                before = others.get(digits.charAt(i) - '0');
                row.add(before);
            }
        }
        return withTail(row);
    }

    /** A body, or what stands for one, and the tail that belongs to it. */
    static List<Integer> withTail(List<Integer> body) {
        int signature = signature(body);
        return withTail(body, sum(body), signature / 16, signature / 4 % 4, signature % 4);
    }

    static List<Integer> withTail(List<Integer> body, int... four) {
        List<Integer> row = new ArrayList<>(body);
        for (int letter : four) {
            row.addAll(List.of(letter, letter, letter));
        }
        return row;
    }

    static List<Integer> without(List<Integer> row, int at) {
        List<Integer> shorter = new ArrayList<>(row);
        shorter.remove(at);
        return shorter;
    }

    static List<Integer> with(List<Integer> row, int at, int letter) {
        List<Integer> longer = new ArrayList<>(row);
        longer.add(at, letter);
        return longer;
    }

    /** The long a (half 0) or b (half 1) with which forge makes this row. */
    static long half(List<Integer> row, int half) {
        long bits = 0;
        for (int i = 32 * half; i < row.size() && i < 32 * half + 32; i++) {
            bits |= (long) row.get(i) << (2 * (i - 32 * half));
        }
        return bits;
    }

    static int sum(List<Integer> body) {
        int sum = 0;
        for (int letter : body) {
            sum += letter;
        }
        return sum % 4;
    }

    static int signature(List<Integer> body) {
        int sum = 0;
        for (int i = 1; i < body.size(); i++) {
            sum += body.get(i) >= body.get(i - 1) ? i : 0;
        }
        return sum % 33;
    }

    private boolean has(int strand) {
        return strand >= 0 && strand < strands.size();
    }

    private boolean added(List<Integer> row) {
        return heap.size() < 90 && heap.add(row);
    }

    private static List<Integer> bodyOf(List<Integer> row) {
        if (row.size() < 44 || row.size() > 46) {
            return null;
        }
        int[] tail = new int[4];
        for (int part = 0; part < 4; part++) {
            int start = row.size() - 12 + 3 * part;
            tail[part] = -1;
            for (int letter = 0; letter < 4; letter++) {
                if (Collections.frequency(row.subList(start, start + 3), letter) >= 2) {
                    tail[part] = letter;
                }
            }
            if (tail[part] < 0) {
                return null;
            }
        }
        int signature = 16 * tail[1] + 4 * tail[2] + tail[3];
        Set<List<Integer>> fitting = new HashSet<>();
        for (List<Integer> word : wordsNear(row.subList(0, row.size() - 12))) {
            if (signature < 33 && sum(word) == tail[0] && signature(word) == signature) {
                fitting.add(word);
            }
        }
        if (fitting.size() > 1) {
            throw new IllegalStateException("the document says that there are never two");
        }
        return fitting.isEmpty() ? null : fitting.iterator().next();
    }

    private static List<List<Integer>> wordsNear(List<Integer> body) {
        List<List<Integer>> words = new ArrayList<>();
        if (body.size() == 33) {
            words.add(body);
        }
        for (int at = 0; at < 33 && body.size() == 32; at++) {
            for (int letter = 0; letter < 4; letter++) {
                words.add(with(body, at, letter));
            }
        }
        for (int at = 0; at < 34 && body.size() == 34; at++) {
            words.add(without(body, at));
        }
        return words;
    }

    static int[] bytesOf(List<Integer> body) {
        int[] six = new int[6];
        int before = 3;
        for (int group = 0; group < 3; group++) {
            StringBuilder digits = new StringBuilder();
            for (int i = 11 * group; i < 11 * group + 11; i++) {
                List<Integer> others = new ArrayList<>(List.of(0, 1, 2, 3));
                others.remove(Integer.valueOf(before));
                before = body.get(i);
                if (!others.contains(before)) {
                    return null;
                }
                digits.append(others.indexOf(before));
            }
            int value = Integer.parseInt(digits.toString(), 3);
            if (value > 65535) {
                return null;
            }
            six[2 * group] = value / 256;
            six[2 * group + 1] = value % 256;
        }
        return six;
    }

    private int decodeBlock(int b, List<int[]> reads) {
        int[][] said = new int[16][];
        for (int[] six : reads) {
            if (six[0] == b) {
                said[six[1]] = Arrays.copyOfRange(six, 2, 6);
            }
        }
        List<Integer> gaps = new ArrayList<>();
        for (int s = 0; s < 16; s++) {
            if (said[s] == null) {
                gaps.add(s);
            }
        }
        erased[b] = gaps.size();
        Set<Integer> touched = new HashSet<>();
        int[] made = new int[40];
        for (int c = 0; c < 4; c++) {
            int[] column = new int[16];
            for (int s = 0; s < 16; s++) {
                column[s] = said[s] == null ? 0 : said[s][c];
            }
            int[] word = nearest(column, gaps);
            if (word == null) {
                changed[b] = -1;
                return 0;
            }
            for (int s = 0; s < 16; s++) {
                if (said[s] != null && word[s] != column[s]) {
                    touched.add(s);
                }
                if (s < 10) {
                    made[4 * s + c] = word[s];
                }
            }
        }
        changed[b] = touched.size();
        System.arraycopy(made, 0, decoded, 40 * b, 40);
        return 1;
    }

    private static int[] nearest(int[] column, List<Integer> gaps) {
        int[] found = null;
        for (int set = 0; set < 65536; set++) {
            int many = Integer.bitCount(set);
            if (2 * many + gaps.size() > 6) {
                continue;
            }
            List<Integer> open = new ArrayList<>(gaps);
            for (int s = 0; s < 16; s++) {
                if ((set >> s & 1) == 1 && !gaps.contains(s)) {
                    open.add(s);
                }
            }
            if (open.size() != gaps.size() + many) {
                continue;
            }
            int[] word = solved(column, open, new int[6]);
            if (word != null && found != null && !Arrays.equals(word, found)) {
                throw new IllegalStateException("the document says that there is at most one");
            }
            found = word == null ? found : word;
        }
        return found;
    }

    /** A column, 0 but for its parity strands, that has these six sums. */
    static int[] wordWithSums(int... sums) {
        return solved(new int[16], List.of(10, 11, 12, 13, 14, 15), sums);
    }

    /** The word with these sums that may differ in the open places, by elimination; null when there is none. */
    private static int[] solved(int[] column, List<Integer> open, int[] sums) {
        int width = open.size();
        int[][] rows = new int[6][width + 1];
        for (int j = 0; j < 6; j++) {
            rows[j][width] = sums[j];
            for (int s = 0; s < 16; s++) {
                int place = open.indexOf(s);
                if (place >= 0) {
                    rows[j][place] = POWERS[j * s];
                } else {
                    rows[j][width] ^= PRODUCTS[column[s]][POWERS[j * s]];
                }
            }
        }
        for (int k = 0; k < width; k++) {
            int pivot = k;
            while (rows[pivot][k] == 0) {
                pivot++;
            }
            int[] row = rows[pivot];
            rows[pivot] = rows[k];
            int inverse = INVERSES[row[k]];
            for (int i = 0; i <= width; i++) {
                row[i] = PRODUCTS[row[i]][inverse];
            }
            rows[k] = row;
            for (int j = 0; j < 6; j++) {
                int factor = rows[j][k];
                for (int i = 0; i <= width && j != k; i++) {
                    rows[j][i] ^= PRODUCTS[factor][row[i]];
                }
            }
        }
        for (int j = width; j < 6; j++) {
            if (rows[j][width] != 0) {
                return null;
            }
        }
        int[] word = column.clone();
        for (int k = 0; k < width; k++) {
            word[open.get(k)] = rows[k][width];
        }
        return word;
    }

    private static int[] powers() {
        int[] powers = new int[76];
        powers[0] = 1;
        for (int e = 1; e < powers.length; e++) {
            powers[e] = PRODUCTS[powers[e - 1]][2];
        }
        return powers;
    }

    private static int[] inverses() {
        int[] inverses = new int[256];
        for (int a = 1; a < 256; a++) {
            for (int b = 1; b < 256; b++) {
                inverses[a] = PRODUCTS[a][b] == 1 ? b : inverses[a];
            }
        }
        return inverses;
    }

    private static int[][] products() {
        int[][] table = new int[256][256];
        for (int a = 0; a < 256; a++) {
            for (int b = 0; b < 256; b++) {
                int product = 0;
                for (int bit = 0; bit < 8; bit++) {
                    product ^= (b >> bit & 1) * (a << bit);
                }
                for (int bit = 14; bit >= 8; bit--) {
                    product ^= (product >> bit & 1) * (0b100011101 << (bit - 8));
                }
                table[a][b] = product;
            }
        }
        return table;
    }
}
