import java.util.Arrays;
import java.util.NoSuchElementException;

/** An archive of bytes as strands of four letters, as ../shared/DOC.md promises it. */
public final class StrandArchive {
    public static final int NONE = -1;

    private static final int MOST_BYTES = 160;
    private static final int BLOCK_BYTES = 40;
    private static final int MOST_BLOCKS = 4;
    private static final int BLOCK_STRANDS = 16;
    private static final int DATA_STRANDS = 10;
    private static final int PARITY_STRANDS = 6;
    private static final int COLUMNS = 4;

    private static final int LETTERS = 4;
    private static final int BODY = 33;
    private static final int TAIL = 12;
    private static final int STRAND = BODY + TAIL;
    private static final int TAIL_COPIES = 3;

    private static final int GROUP_DIGITS = 11;
    private static final int HIGHEST_DIGIT = 59049;
    private static final int GROUP_VALUES = 65536;

    private static final int MOST_READS = 90;
    private static final int MOST_READ_LETTERS = 60;

    private final int[] bytes = new int[MOST_BYTES];
    private final Row[] strands = newRows(MOST_BLOCKS * BLOCK_STRANDS);
    private int strandsWritten = 0;
    private final Row[] reads = newRows(MOST_READS);
    private int readsHeld = 0;

    private final Field field = new Field();
    private final Column column = new Column(field);
    private final int[] blockBytes = new int[BLOCK_STRANDS * COLUMNS];
    private final Body body = new Body();
    private final Decoding latest = new Decoding(column);

    public StrandArchive() {
    }

    public boolean load(int i, int b) {
        if (i < 0 || i >= MOST_BYTES) {
            return false;
        }
        bytes[i] = b & 255;
        return true;
    }

    public int write(int n) {
        if (!isSize(n)) {
            return 0;
        }
        int blocks = blocksOf(n);
        for (int b = 0; b < blocks; b++) {
            fillBlock(b, n);
            for (int s = 0; s < BLOCK_STRANDS; s++) {
                spellStrand(b, s);
            }
        }
        strandsWritten = blocks * BLOCK_STRANDS;
        readsHeld = 0;
        return strandsWritten;
    }

    public int letter(int strand, int i) {
        if (!isWritten(strand) || i < 0 || i >= STRAND) {
            return NONE;
        }
        return strands[strand].at(i);
    }

    public void clear() {
        readsHeld = 0;
    }

    public boolean read(int strand) {
        if (!isWritten(strand) || isFull()) {
            return false;
        }
        Row source = strands[strand];
        nextRead().become(source.low, source.high, source.length);
        return true;
    }

    public boolean readCut(int strand, int at) {
        if (!isWritten(strand) || isFull() || at < 0 || at >= BODY) {
            return false;
        }
        Row target = nextRead();
        target.become(0L, 0L, 0);
        target.appendPart(strands[strand], 0, at);
        target.appendPart(strands[strand], at + 1, STRAND);
        return true;
    }

    public boolean readGrown(int strand, int at, int letter) {
        if (!isWritten(strand) || isFull() || at < 0 || at > BODY || letter < 0 || letter >= LETTERS) {
            return false;
        }
        Row target = nextRead();
        target.become(0L, 0L, 0);
        target.appendPart(strands[strand], 0, at);
        target.append(letter);
        target.appendPart(strands[strand], at, STRAND);
        return true;
    }

    public boolean forge(long a, long b, int n) {
        if (isFull() || n < 0 || n > MOST_READ_LETTERS) {
            return false;
        }
        nextRead().become(a, b, n);
        return true;
    }

    public boolean shuffle(int seed) {
        if (seed < 0) {
            return false;
        }
        int state = seed;
        for (int k = readsHeld - 1; k >= 1; k--) {
            // The product wraps at 2 to the power 32, which leaves its value modulo 2 to the power 31 as it is.
            state = (state * 1103515245 + 12345) & 0x7fffffff;
            int other = state / 65536 % (k + 1);
            Row moved = reads[k];
            reads[k] = reads[other];
            reads[other] = moved;
        }
        return true;
    }

    public int heap() {
        return readsHeld;
    }

    public int decode(int n) {
        if (!isSize(n)) {
            return NONE;
        }
        latest.begin(n);
        for (int k = 0; k < readsHeld; k++) {
            latest.take(reads[k]);
        }
        boolean whole = true;
        for (int b = 0; b < blocksOf(n); b++) {
            whole = latest.finishBlock(b) && whole;
        }
        return whole ? 1 : 0;
    }

    public int out(int i) throws NoSuchElementException {
        if (i < 0 || i >= latest.size) {
            throw new NoSuchElementException();
        }
        return latest.bytes[i];
    }

    public int count(int what) {
        switch (what) {
            case 0:
                return latest.size;
            case 1:
                return latest.fixed;
            case 2:
                return latest.dropped;
            default:
                return NONE;
        }
    }

    public int block(int b, int what) throws NoSuchElementException {
        if (b < 0 || b >= blocksOf(latest.size) || what < 0 || what > 1) {
            throw new NoSuchElementException();
        }
        return what == 0 ? latest.erased[b] : latest.changed[b];
    }

    public int product(int a, int b) {
        return field.times(a & 255, b & 255);
    }

    private static Row[] newRows(int count) {
        Row[] rows = new Row[count];
        for (int k = 0; k < count; k++) {
            rows[k] = new Row();
        }
        return rows;
    }

    private static boolean isSize(int n) {
        return n >= 1 && n <= MOST_BYTES;
    }

    private static int blocksOf(int n) {
        return (n + BLOCK_BYTES - 1) / BLOCK_BYTES;
    }

    private boolean isWritten(int strand) {
        return strand >= 0 && strand < strandsWritten;
    }

    private boolean isFull() {
        return readsHeld >= MOST_READS;
    }

    /** The caller has seen that the heap is not full. */
    private Row nextRead() {
        readsHeld++;
        return reads[readsHeld - 1];
    }

    private void fillBlock(int b, int n) {
        for (int c = 0; c < COLUMNS; c++) {
            for (int s = 0; s < BLOCK_STRANDS; s++) {
                int i = b * BLOCK_BYTES + s * COLUMNS + c;
                boolean parity = s >= DATA_STRANDS;
                column.set(s, !parity && i < n ? bytes[i] : 0, parity);
            }
            // Parity is what mending gives back for six erased strands, and that many can always be given back.
            column.mend();
            for (int s = 0; s < BLOCK_STRANDS; s++) {
                blockBytes[s * COLUMNS + c] = column.values[s];
            }
        }
    }

    private void spellStrand(int b, int s) {
        int first = s * COLUMNS;
        body.spell(0, 256 * b + s);
        body.spell(1, 256 * blockBytes[first] + blockBytes[first + 1]);
        body.spell(2, 256 * blockBytes[first + 2] + blockBytes[first + 3]);
        Row row = strands[b * BLOCK_STRANDS + s];
        row.become(0L, 0L, 0);
        for (int i = 0; i < BODY; i++) {
            row.append(body.letters[i]);
        }
        int signature = body.signature();
        appendCopies(row, body.sum());
        appendCopies(row, signature / 16);
        appendCopies(row, signature / 4 % 4);
        appendCopies(row, signature % 4);
    }

    private static void appendCopies(Row row, int letter) {
        for (int copy = 0; copy < TAIL_COPIES; copy++) {
            row.append(letter);
        }
    }

    /** Up to 60 letters, two bits each from the lowest on, held just as forge tells them. */
    private static final class Row {
        private long low = 0L;
        private long high = 0L;
        private int length = 0;

        void become(long newLow, long newHigh, int newLength) {
            low = newLow;
            high = newHigh;
            length = newLength;
        }

        int at(int i) {
            long word = i < 32 ? low >>> (2 * i) : high >>> (2 * (i - 32));
            return (int) (word & 3L);
        }

        void append(int letter) {
            if (length < 32) {
                low |= (long) letter << (2 * length);
            } else {
                high |= (long) letter << (2 * (length - 32));
            }
            length++;
        }

        void appendPart(Row source, int from, int to) {
            for (int i = from; i < to; i++) {
                append(source.at(i));
            }
        }
    }

    /** The field of 256 elements, by powers of 2. */
    private static final class Field {
        private static final int MODULUS = 0x11d;
        private static final int POWERS = 255;

        private final int[] powers = new int[POWERS];
        private final int[] logs = new int[POWERS + 1];

        Field() {
            int x = 1;
            for (int e = 0; e < POWERS; e++) {
                powers[e] = x;
                logs[x] = e;
                x = x < 128 ? 2 * x : (2 * x) ^ MODULUS;
            }
        }

        int powerOfTwo(int exponent) {
            return powers[exponent % POWERS];
        }

        int times(int a, int b) {
            return a == 0 || b == 0 ? 0 : powers[(logs[a] + logs[b]) % POWERS];
        }

        /** 0 for a divisor 0, which no caller has. */
        int over(int a, int b) {
            return a == 0 || b == 0 ? 0 : powers[(logs[a] - logs[b] + POWERS) % POWERS];
        }
    }

    /** A body with its sum and signature, kept up to date letter by letter so that many near words are cheap to try. */
    private static final class Body {
        private final int[] letters = new int[BODY];
        private int letterSum = 0;
        private int riseSum = 0;

        Body() {
            // All letters are 0, and a letter that equals the one ahead of it counts as a rise.
            for (int i = 1; i < BODY; i++) {
                riseSum += i;
            }
        }

        void put(int i, int letter) {
            riseSum -= rise(i) + rise(i + 1);
            letterSum -= letters[i];
            letters[i] = letter;
            letterSum += letter;
            riseSum += rise(i) + rise(i + 1);
        }

        int sum() {
            return letterSum % LETTERS;
        }

        int signature() {
            return riseSum % BODY;
        }

        void spell(int group, int value) {
            int power = HIGHEST_DIGIT;
            int start = group * GROUP_DIGITS;
            for (int i = start; i < start + GROUP_DIGITS; i++) {
                int digit = value / power % 3;
                put(i, digit < ahead(i) ? digit : digit + 1);
                power /= 3;
            }
        }

        /** The two bytes that a group spells, or NONE. */
        int spelled(int group) {
            int value = 0;
            int start = group * GROUP_DIGITS;
            for (int i = start; i < start + GROUP_DIGITS; i++) {
                int letter = letters[i];
                if (letter == ahead(i)) {
                    return NONE;
                }
                value = 3 * value + (letter < ahead(i) ? letter : letter - 1);
            }
            return value < GROUP_VALUES ? value : NONE;
        }

        private int ahead(int i) {
            return i == 0 ? LETTERS - 1 : letters[i - 1];
        }

        private int rise(int i) {
            return i >= 1 && i < BODY && letters[i] >= letters[i - 1] ? i : 0;
        }
    }

    /** Makes the body of one read, as far as its letters and its tail allow. */
    private static final class Reader {
        private final Body body = new Body();
        private int sumDue = 0;
        private int signatureDue = 0;

        boolean restore(Row source) {
            if (source.length < STRAND - 1 || source.length > STRAND + 1 || !takeTail(source)) {
                return false;
            }
            if (source.length < STRAND) {
                return restoreCut(source);
            }
            return source.length == STRAND ? restoreWhole(source) : restoreGrown(source);
        }

        private boolean takeTail(Row source) {
            int start = source.length - TAIL;
            sumDue = majority(source, start);
            int high = majority(source, start + TAIL_COPIES);
            int middle = majority(source, start + 2 * TAIL_COPIES);
            int low = majority(source, start + 3 * TAIL_COPIES);
            signatureDue = 16 * high + 4 * middle + low;
            return sumDue != NONE && high != NONE && middle != NONE && low != NONE && signatureDue < BODY;
        }

        private static int majority(Row source, int start) {
            int first = source.at(start);
            int second = source.at(start + 1);
            int third = source.at(start + 2);
            if (first == second || first == third) {
                return first;
            }
            return second == third ? second : NONE;
        }

        private boolean isDue() {
            return body.sum() == sumDue && body.signature() == signatureDue;
        }

        private boolean restoreWhole(Row source) {
            for (int i = 0; i < BODY; i++) {
                body.put(i, source.at(i));
            }
            return isDue();
        }

        /** The letter that the sum asks for is put in ahead of all others, then moved on place by place. */
        private boolean restoreCut(Row source) {
            int sum = 0;
            for (int i = 1; i < BODY; i++) {
                int letter = source.at(i - 1);
                body.put(i, letter);
                sum += letter;
            }
            int missing = Math.floorMod(sumDue - sum, LETTERS);
            body.put(0, missing);
            for (int gap = 0; gap < BODY - 1 && !isDue(); gap++) {
                body.put(gap, source.at(gap));
                body.put(gap + 1, missing);
            }
            return isDue();
        }

        /** The first letter is taken out, then each later one in its stead. */
        private boolean restoreGrown(Row source) {
            for (int i = 0; i < BODY; i++) {
                body.put(i, source.at(i + 1));
            }
            for (int taken = 0; taken < BODY && !isDue(); taken++) {
                body.put(taken, source.at(taken));
            }
            return isDue();
        }
    }

    /** One byte of each of a block's strands; the strand s stands at the place 2 to the power s of the field. */
    private static final class Column {
        private final Field field;
        private final int[] values = new int[BLOCK_STRANDS];
        private final boolean[] unknown = new boolean[BLOCK_STRANDS];
        private final int[] sums = new int[PARITY_STRANDS];
        private final int[] sifted = new int[PARITY_STRANDS];
        private final int[] polynomial = new int[PARITY_STRANDS + 1];
        private final int[] recurrence = new int[PARITY_STRANDS + 1];
        private final int[] earlier = new int[PARITY_STRANDS + 1];
        private final int[] kept = new int[PARITY_STRANDS + 1];

        Column(Field field) {
            this.field = field;
        }

        void set(int s, int value, boolean erased) {
            values[s] = erased ? 0 : value;
            unknown[s] = erased;
        }

        /** Makes the column the word with zero sums that is near enough; false when there is none. */
        boolean mend() {
            int erased = countUnknown();
            if (erased > PARITY_STRANDS) {
                return false;
            }
            int spare = PARITY_STRANDS - erased;
            addUp();
            siftOutUnknown(spare);
            int wrong = findRecurrence(spare);
            if (2 * wrong > spare || markWrong(wrong) != wrong) {
                return false;
            }
            fillUnknown();
            return true;
        }

        private int countUnknown() {
            int many = 0;
            for (int s = 0; s < BLOCK_STRANDS; s++) {
                many += unknown[s] ? 1 : 0;
            }
            return many;
        }

        private void addUp() {
            for (int j = 0; j < PARITY_STRANDS; j++) {
                int sum = 0;
                for (int s = 0; s < BLOCK_STRANDS; s++) {
                    sum ^= field.times(values[s], field.powerOfTwo(j * s));
                }
                sums[j] = sum;
            }
        }

        /** Weighing with a polynomial that is 0 at the erased places leaves sums of the wrong strands alone. */
        private void siftOutUnknown(int spare) {
            int degree = spanUnknown(NONE);
            for (int j = 0; j < spare; j++) {
                sifted[j] = weigh(j, degree);
            }
        }

        /** Makes the polynomial that is 0 at all unknown places but one; answers its degree. */
        private int spanUnknown(int except) {
            Arrays.fill(polynomial, 0);
            polynomial[0] = 1;
            int degree = 0;
            for (int s = 0; s < BLOCK_STRANDS; s++) {
                if (unknown[s] && s != except && degree < PARITY_STRANDS) {
                    degree++;
                    int place = field.powerOfTwo(s);
                    for (int i = degree; i >= 1; i--) {
                        polynomial[i] = polynomial[i - 1] ^ field.times(place, polynomial[i]);
                    }
                    polynomial[0] = field.times(place, polynomial[0]);
                }
            }
            return degree;
        }

        private int weigh(int start, int degree) {
            int sum = 0;
            for (int i = 0; i <= degree && start + i < PARITY_STRANDS; i++) {
                sum ^= field.times(polynomial[i], sums[start + i]);
            }
            return sum;
        }

        /** Berlekamp and Massey: the shortest recurrence of the sifted sums is as long as there are wrong strands. */
        private int findRecurrence(int spare) {
            Arrays.fill(recurrence, 0);
            Arrays.fill(earlier, 0);
            recurrence[0] = 1;
            earlier[0] = 1;
            int earlierMiss = 1;
            int length = 0;
            int shift = 1;
            for (int k = 0; k < spare; k++) {
                int miss = missAt(k, length);
                if (miss == 0) {
                    shift++;
                    continue;
                }
                System.arraycopy(recurrence, 0, kept, 0, recurrence.length);
                int factor = field.over(miss, earlierMiss);
                for (int i = shift; i < recurrence.length; i++) {
                    recurrence[i] ^= field.times(factor, earlier[i - shift]);
                }
                if (2 * length > k) {
                    shift++;
                    continue;
                }
                System.arraycopy(kept, 0, earlier, 0, kept.length);
                earlierMiss = miss;
                length = k + 1 - length;
                shift = 1;
            }
            return length;
        }

        private int missAt(int k, int length) {
            int sum = 0;
            for (int i = 0; i <= length && i <= k; i++) {
                sum ^= field.times(recurrence[i], sifted[k - i]);
            }
            return sum;
        }

        /** The places where the recurrence's own polynomial is 0 are those of wrong strands; answers how many. */
        private int markWrong(int length) {
            int found = 0;
            for (int s = 0; s < BLOCK_STRANDS; s++) {
                if (!unknown[s] && recurrenceAt(field.powerOfTwo(s), length) == 0) {
                    unknown[s] = true;
                    found++;
                }
            }
            return found;
        }

        private int recurrenceAt(int place, int length) {
            int value = 0;
            for (int i = 0; i <= length; i++) {
                value = field.times(value, place) ^ recurrence[i];
            }
            return value;
        }

        /** A polynomial that is 0 at all other unknown places weighs the sums so that one unknown is left. */
        private void fillUnknown() {
            for (int s = 0; s < BLOCK_STRANDS; s++) {
                if (unknown[s]) {
                    int degree = spanUnknown(s);
                    values[s] ^= field.over(weigh(0, degree), polynomialAt(field.powerOfTwo(s), degree));
                }
            }
        }

        private int polynomialAt(int place, int degree) {
            int value = 0;
            for (int i = degree; i >= 0; i--) {
                value = field.times(value, place) ^ polynomial[i];
            }
            return value;
        }
    }

    /** The latest decoding: what it answered, and the rows that it works on. */
    private static final class Decoding {
        private final Column column;
        private final Reader reader = new Reader();
        private final int[] claims = new int[MOST_BLOCKS * BLOCK_STRANDS];
        private final int[] said = new int[MOST_BLOCKS * BLOCK_STRANDS * COLUMNS];
        private int touched = 0;

        private int size = 0;
        private int fixed = 0;
        private int dropped = 0;
        private final int[] bytes = new int[MOST_BLOCKS * BLOCK_BYTES];
        private final int[] erased = new int[MOST_BLOCKS];
        private final int[] changed = new int[MOST_BLOCKS];

        Decoding(Column column) {
            this.column = column;
        }

        void begin(int n) {
            size = n;
            fixed = 0;
            dropped = 0;
            Arrays.fill(claims, 0);
        }

        void take(Row source) {
            int slot = reader.restore(source) ? slotOf(reader.body.spelled(0)) : NONE;
            int firstPair = reader.body.spelled(1);
            int secondPair = reader.body.spelled(2);
            if (slot == NONE || firstPair == NONE || secondPair == NONE) {
                dropped++;
                return;
            }
            fixed += source.length == STRAND ? 0 : 1;
            claims[slot]++;
            int start = slot * COLUMNS;
            said[start] = firstPair / 256;
            said[start + 1] = firstPair % 256;
            said[start + 2] = secondPair / 256;
            said[start + 3] = secondPair % 256;
        }

        /** False when the block is lost. */
        boolean finishBlock(int b) {
            settleSlots(b);
            touched = 0;
            for (int c = 0; c < COLUMNS; c++) {
                if (!mendColumn(b, c)) {
                    loseBlock(b);
                    return false;
                }
            }
            changed[b] = Integer.bitCount(touched);
            return true;
        }

        private int slotOf(int pair) {
            int b = pair / 256;
            int s = pair % 256;
            boolean known = pair != NONE && b < blocksOf(size) && s < BLOCK_STRANDS;
            return known ? b * BLOCK_STRANDS + s : NONE;
        }

        private void settleSlots(int b) {
            erased[b] = 0;
            for (int s = 0; s < BLOCK_STRANDS; s++) {
                int many = claims[b * BLOCK_STRANDS + s];
                erased[b] += many == 1 ? 0 : 1;
                dropped += many > 1 ? many : 0;
            }
        }

        private boolean mendColumn(int b, int c) {
            for (int s = 0; s < BLOCK_STRANDS; s++) {
                int slot = b * BLOCK_STRANDS + s;
                column.set(s, said[slot * COLUMNS + c], claims[slot] != 1);
            }
            if (!column.mend()) {
                return false;
            }
            for (int s = 0; s < BLOCK_STRANDS; s++) {
                int slot = b * BLOCK_STRANDS + s;
                if (claims[slot] == 1 && column.values[s] != said[slot * COLUMNS + c]) {
                    touched |= 1 << s;
                }
                if (s < DATA_STRANDS) {
                    bytes[b * BLOCK_BYTES + s * COLUMNS + c] = column.values[s];
                }
            }
            return true;
        }

        private void loseBlock(int b) {
            changed[b] = NONE;
            for (int i = 0; i < BLOCK_BYTES; i++) {
                bytes[b * BLOCK_BYTES + i] = 0;
            }
        }
    }
}
