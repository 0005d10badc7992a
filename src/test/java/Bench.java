import java.util.ArrayList;
import java.util.List;

/** What several tests need: archives with bytes in them, forged reads, and whole decodings to compare. */
final class Bench {
    static final int LOW = Integer.MIN_VALUE;
    static final int HIGH = Integer.MAX_VALUE;

    /** What a full write of the bytes of byteAt has to be. */
    private static final Model WRITTEN = writtenModel();

    private Bench() {
    }

    static int byteAt(int i) {
        return (i * 37 + 11) % 256;
    }

    static void fillBytes(StrandArchive x, int n) {
        for (int i = 0; i < n; i++) {
            x.load(i, byteAt(i));
        }
    }

    static StrandArchive written(int n) {
        StrandArchive x = new StrandArchive();
        fillBytes(x, n);
        x.write(n);
        return x;
    }

    /** Written, with an empty heap that has held other letters before. */
    static StrandArchive used(int n) {
        StrandArchive x = written(n);
        for (int k = 0; k < 90; k++) {
            x.forge(-1L, -1L, 60);
        }
        x.clear();
        return x;
    }

    static void readStrands(StrandArchive x, int from, int to) {
        for (int strand = from; strand < to; strand++) {
            Check.due("read(" + strand + ")", x.read(strand), true);
        }
    }

    static void dueOut(String what, StrandArchive x, int from, int to) {
        for (int i = from; i < to; i++) {
            Check.due(what + ": out(" + i + ")", x.out(i), byteAt(i));
        }
    }

    static void dueOutZero(String what, StrandArchive x, int from, int to) {
        for (int i = from; i < to; i++) {
            Check.due(what + ": out(" + i + ")", x.out(i), 0);
        }
    }

    static void dueLetters(StrandArchive x, int strand, List<Integer> row) {
        for (int i = 0; i < row.size(); i++) {
            Check.due("letter(" + strand + ", " + i + ")", x.letter(strand, i), row.get(i));
        }
    }

    /** A row from a text of letters; spaces only part it for the eye. */
    static List<Integer> row(String letters) {
        List<Integer> row = new ArrayList<>();
        for (char letter : letters.replace(" ", "").toCharArray()) {
            row.add(letter - '0');
        }
        return row;
    }

    static void forge(StrandArchive x, List<Integer> row) {
        boolean taken = x.forge(Model.half(row, 0), Model.half(row, 1), row.size());
        Check.due("forge of " + row.size() + " letters", taken, true);
    }

    static List<Integer> writtenBody(int strand) {
        List<Integer> letters = new ArrayList<>();
        for (int i = 0; i < 33; i++) {
            letters.add(WRITTEN.letter(strand, i));
        }
        return letters;
    }

    /** A forged read for a written strand with other bytes in the columns of the mask. */
    static void lie(StrandArchive x, int strand, int mask) {
        int[] six = Model.bytesOf(writtenBody(strand));
        for (int c = 0; c < 4; c++) {
            six[2 + c] ^= (mask >> c & 1) * (1 + (strand * 53 + c * 29) % 255);
        }
        forge(x, Model.strand(six));
    }

    /** Nine of a block's ten data strands, all 0: whatever a read says for the tenth is believed, since none is to spare. */
    static StrandArchive allButOne(int strand) {
        StrandArchive x = new StrandArchive();
        for (int s = 0; s < 10; s++) {
            if (s != strand) {
                forge(x, Model.strand(0, s, 0, 0, 0, 0));
            }
        }
        return x;
    }

    /** The read has to say these data bytes for a data strand of block 0. */
    static void dueTaken(String what, List<Integer> row, int fixed, int strand, int... data) {
        StrandArchive x = allButOne(strand);
        forge(x, row);
        dueDecoding(what, x, 40, 1, fixed, 0, 6, 0);
        for (int c = 0; c < 4; c++) {
            int i = 4 * strand + c;
            Check.due(what + ": out(" + i + ")", x.out(i), data[c]);
        }
    }

    /** The read has to be dropped, so that strand 3 stays away as a seventh one. */
    static void dueDropped(String what, List<Integer> row) {
        StrandArchive x = allButOne(3);
        forge(x, row);
        dueDecoding(what, x, 40, 0, 0, 1, 7, -1);
    }

    static void dueDroppedInAllForms(String what, List<Integer> row) {
        dueDropped(what, row);
        for (int at = 0; at < 33; at += 8) {
            dueDropped(what + ", cut at " + at, Model.without(row, at));
            dueDropped(what + ", grown at " + at, Model.with(row, at, at / 8 % 4));
        }
    }

    /** Due, in this order: decode's answer, reads fixed, reads dropped, strands of block 0 erased, and those changed. */
    static void dueDecoding(String what, StrandArchive x, int n, int... due) {
        Check.due(what + ": decode(" + n + ")", x.decode(n), due[0]);
        Check.due(what + ": count(1)", x.count(1), due[1]);
        Check.due(what + ": count(2)", x.count(2), due[2]);
        Check.due(what + ": block(0, 0)", x.block(0, 0), due[3]);
        Check.due(what + ": block(0, 1)", x.block(0, 1), due[4]);
    }

    /** All that an object answers of its heap, its latest decoding and the ends of its strands. */
    static int[] digest(StrandArchive x) {
        List<Integer> all = new ArrayList<>();
        all.add(x.heap());
        for (int what = 0; what < 3; what++) {
            all.add(x.count(what));
        }
        int size = x.count(0);
        for (int i = 0; i < size; i++) {
            all.add(x.out(i));
        }
        for (int b = 0; 40 * b < size; b++) {
            all.add(x.block(b, 0));
            all.add(x.block(b, 1));
        }
        for (int strand = 15; strand < 64; strand += 16) {
            all.add(x.letter(strand, 0));
            all.add(x.letter(strand, 44));
        }
        return all.stream().mapToInt(Integer::intValue).toArray();
    }

    static void sameDigest(String what, int[] got, int[] want) {
        Check.due(what + ": how many answers", got.length, want.length);
        for (int k = 0; k < want.length && k < got.length; k++) {
            Check.due(what + ": answer " + k, got[k], want[k]);
        }
    }

    private static Model writtenModel() {
        Model model = new Model();
        for (int i = 0; i < 160; i++) {
            model.load(i, byteAt(i));
        }
        model.write(160);
        return model;
    }
}
