import java.util.ArrayList;
import java.util.List;

/**
 * Each promise of the document by itself: ordinary inputs, the edges it names, and wrong inputs.
 * No object is used for more than 512 calls, since what later ones answer is free.
 */
final class PromiseTest {
    /** Block 0, strand 0, data 0 0 0 0: all digits are 0, so 0 and 1 take turns; the sum is 16, the signature 256. */
    private static final String ZERO_STRAND = "010101010101010101010101010101010" + "000111222111";

    /** What a full write of the bytes of byteAt has to be. */
    private static final Model WRITTEN = written();

    private static final int LOW = Integer.MIN_VALUE;
    private static final int HIGH = Integer.MAX_VALUE;

    public static void main(String[] args) {
        promise1NewObject();
        promise2Load();
        promise3Write();
        promise4Letter();
        promise5Clear();
        promise6Read();
        promise7ReadCut();
        promise8ReadGrown();
        promise9Forge();
        promise10Shuffle();
        promise11Heap();
        promise12Decode();
        promise13Out();
        promise14Count();
        promise15Block();
        promise16Product();
        tails();
        fixing();
        refusedBodies();
        slots();
        mending();
        objectsAreApart();
        Check.finish("PromiseTest");
    }

    private static void promise1NewObject() {
        StrandArchive x = new StrandArchive();
        Check.due("1 heap()", x.heap(), 0);
        Check.due("1 letter(0, 0)", x.letter(0, 0), -1);
        Check.due("1 read(0)", x.read(0), false);
        Check.due("1 readCut(0, 0)", x.readCut(0, 0), false);
        Check.due("1 readGrown(0, 0, 0)", x.readGrown(0, 0, 0), false);
        for (int what = 0; what < 3; what++) {
            Check.due("1 count(" + what + ")", x.count(what), 0);
        }
        Check.dueThrow("1 out(0)", () -> x.out(0));
        Check.dueThrow("1 block(0, 0)", () -> x.block(0, 0));
        Check.due("1 write(160)", x.write(160), 64);
        readStrands(x, 0, 64);
        Check.due("1 decode(160)", x.decode(160), 1);
        for (int i = 0; i < 160; i++) {
            Check.due("1 out(" + i + ")", x.out(i), 0);
        }
    }

    private static void promise2Load() {
        StrandArchive x = new StrandArchive();
        for (int i : new int[] {-1, 160, LOW, HIGH}) {
            Check.due("2 load(" + i + ", 1)", x.load(i, 1), false);
        }
        Check.due("2 load(0, 511)", x.load(0, 511), true);
        Check.due("2 load(1, -2)", x.load(1, -2), true);
        Check.due("2 load(2, 7)", x.load(2, 7), true);
        Check.due("2 load(2, 256)", x.load(2, 256), true);
        Check.due("2 load(159, 128)", x.load(159, 128), true);
        x.write(160);
        Check.due("2 a load after the write", x.load(0, 1), true);
        readStrands(x, 0, 64);
        x.decode(160);
        Check.due("2 out(0)", x.out(0), 255);
        Check.due("2 out(1)", x.out(1), 254);
        Check.due("2 out(2)", x.out(2), 0);
        Check.due("2 out(159)", x.out(159), 128);
    }

    private static void promise3Write() {
        StrandArchive x = new StrandArchive();
        int[] sizes = {1, 39, 40, 41, 80, 81, 120, 121, 160};
        int[] strands = {16, 16, 16, 32, 32, 48, 48, 64, 64};
        for (int k = 0; k < sizes.length; k++) {
            Check.due("3 write(" + sizes[k] + ")", x.write(sizes[k]), strands[k]);
        }
        x.write(41);
        x.read(0);
        for (int n : new int[] {0, -1, 161, LOW, HIGH}) {
            Check.due("3 write(" + n + ")", x.write(n), 0);
        }
        Check.due("3 heap() after refused writes", x.heap(), 1);
        Check.due("3 letter(31, 0) after refused writes", x.letter(31, 0), 0);
        readStrands(x, 1, 32);
        x.decode(41);
        fillBytes(x, 40);
        Check.due("3 write(2)", x.write(2), 16);
        Check.due("3 heap() after a write", x.heap(), 0);
        Check.due("3 letter(16, 0) after a smaller write", x.letter(16, 0), -1);
        Check.due("3 count(0) after a write", x.count(0), 41);
        Check.due("3 out(0) after a write", x.out(0), 0);
        readStrands(x, 0, 16);
        x.decode(40);
        for (int i = 0; i < 40; i++) {
            Check.due("3 out(" + i + ") of two bytes", x.out(i), i < 2 ? byteAt(i) : 0);
        }
        paritySumsAreZero();
    }

    /** The six sums over sixteen strands of each column. */
    private static void paritySumsAreZero() {
        Model model = new Model();
        for (int b = 0; b < 4; b++) {
            int[][] bytes = new int[16][];
            for (int s = 0; s < 16; s++) {
                StrandArchive x = new StrandArchive();
                fillBytes(x, 150);
                x.write(150);
                List<Integer> body = new ArrayList<>();
                for (int i = 0; i < 33; i++) {
                    body.add(x.letter(16 * b + s, i));
                }
                bytes[s] = Model.bytesOf(body);
            }
            for (int k = 0; k < 24; k++) {
                int sum = 0;
                for (int s = 0; s < 16; s++) {
                    int term = bytes[s][2 + k % 4];
                    for (int factor = 0; factor < k / 4 * s; factor++) {
                        term = model.product(term, 2);
                    }
                    sum ^= term;
                }
                Check.due("3 sum " + k / 4 + " of column " + k % 4 + " in block " + b, sum, 0);
            }
        }
    }

    private static void promise4Letter() {
        StrandArchive x = new StrandArchive();
        x.write(160);
        for (int i = 0; i < 45; i++) {
            Check.due("4 letter(0, " + i + ")", x.letter(0, i), ZERO_STRAND.charAt(i) - '0');
        }
        fillBytes(x, 160);
        for (int i = 0; i < 45; i++) {
            Check.due("4 letter(0, " + i + ") after loads alone", x.letter(0, i), ZERO_STRAND.charAt(i) - '0');
        }
        int[][] wrong = {{-1, 0}, {64, 0}, {0, -1}, {0, 45}, {LOW, 0}, {HIGH, 0}, {0, LOW}, {0, HIGH}};
        for (int[] pair : wrong) {
            Check.due("4 letter(" + pair[0] + ", " + pair[1] + ")", x.letter(pair[0], pair[1]), -1);
        }
        for (int strand = 0; strand < 64; strand++) {
            if (strand % 16 < 10) {
                lettersOfDataStrand(strand);
            }
        }
    }

    private static void lettersOfDataStrand(int strand) {
        StrandArchive x = new StrandArchive();
        fillBytes(x, 160);
        x.write(160);
        int b = strand / 16;
        int s = strand % 16;
        int first = 40 * b + 4 * s;
        List<Integer> row = Model.strand(b, s, byteAt(first), byteAt(first + 1), byteAt(first + 2), byteAt(first + 3));
        for (int i = 0; i < 45; i++) {
            Check.due("4 letter(" + strand + ", " + i + ")", x.letter(strand, i), row.get(i));
        }
    }

    private static void promise5Clear() {
        StrandArchive x = new StrandArchive();
        x.load(0, 9);
        x.write(40);
        x.clear();
        Check.due("5 heap() of an empty one", x.heap(), 0);
        readStrands(x, 0, 16);
        x.decode(40);
        x.clear();
        Check.due("5 heap()", x.heap(), 0);
        Check.due("5 out(0) of the latest decoding", x.out(0), 9);
        Check.due("5 letter(0, 0)", x.letter(0, 0), 0);
        Check.due("5 decode(40) of nothing", x.decode(40), 0);
        Check.due("5 block(0, 0) of nothing", x.block(0, 0), 16);
        Check.due("5 count(2) of nothing", x.count(2), 0);
    }

    private static void promise6Read() {
        StrandArchive x = new StrandArchive();
        x.write(160);
        for (int strand : new int[] {-1, 64, LOW, HIGH}) {
            Check.due("6 read(" + strand + ")", x.read(strand), false);
        }
        Check.due("6 heap() after refused reads", x.heap(), 0);
        for (int k = 0; k < 90; k++) {
            Check.due("6 read " + k, x.read(k % 64), true);
        }
        Check.due("6 the read behind the 90th", x.read(0), false);
        Check.due("6 readCut behind the 90th", x.readCut(0, 0), false);
        Check.due("6 readGrown behind the 90th", x.readGrown(0, 0, 0), false);
        Check.due("6 forge behind the 90th", x.forge(0L, 0L, 0), false);
        Check.due("6 heap()", x.heap(), 90);
        x.decode(160);
        Check.due("6 count(2) with 26 strands twice", x.count(2), 52);
        Check.due("6 count(1) of whole reads", x.count(1), 0);
        Check.due("6 block(3, 0) with every strand once", x.block(3, 0), 0);
    }

    private static void promise7ReadCut() {
        StrandArchive x = writtenBlock();
        int[][] wrong = {{0, -1}, {0, 33}, {-1, 0}, {16, 0}, {0, LOW}, {0, HIGH}, {LOW, 0}, {HIGH, 0}};
        for (int[] pair : wrong) {
            Check.due("7 readCut(" + pair[0] + ", " + pair[1] + ")", x.readCut(pair[0], pair[1]), false);
        }
        Check.due("7 heap() after refused reads", x.heap(), 0);
        for (int at = 0; at < 33; at++) {
            x = writtenBlock();
            for (int s = 0; s < 10; s++) {
                Check.due("7 readCut(" + s + ", " + at + ")", x.readCut(s, at), true);
            }
            Check.due("7 decode(40)", x.decode(40), 1);
            Check.due("7 count(1)", x.count(1), 10);
            Check.due("7 out(" + at + ")", x.out(at), byteAt(at));
        }
    }

    private static void promise8ReadGrown() {
        StrandArchive x = writtenBlock();
        int[][] wrong = {{0, -1, 0}, {0, 34, 0}, {0, 0, -1}, {0, 0, 4}, {-1, 0, 0}, {16, 0, 0},
            {LOW, 0, 0}, {HIGH, 0, 0}, {0, LOW, 0}, {0, HIGH, 0}, {0, 0, LOW}, {0, 0, HIGH}};
        for (int[] three : wrong) {
            Check.due("8 readGrown(" + three[0] + ", " + three[1] + ", " + three[2] + ")",
                    x.readGrown(three[0], three[1], three[2]), false);
        }
        Check.due("8 heap() after refused reads", x.heap(), 0);
        for (int at = 0; at <= 33; at++) {
            x = writtenBlock();
            for (int s = 0; s < 10; s++) {
                Check.due("8 readGrown(" + s + ", " + at + ", " + s % 4 + ")", x.readGrown(s, at, s % 4), true);
            }
            Check.due("8 decode(40)", x.decode(40), 1);
            Check.due("8 count(1)", x.count(1), 10);
            Check.due("8 out(" + at + ")", x.out(at), byteAt(at));
        }
    }

    private static void promise9Forge() {
        StrandArchive x = new StrandArchive();
        for (int n : new int[] {-1, 61, LOW, HIGH}) {
            Check.due("9 forge(0, 0, " + n + ")", x.forge(0L, 0L, n), false);
        }
        Check.due("9 heap() after refused ones", x.heap(), 0);
        for (int n : new int[] {0, 1, 43, 47, 60}) {
            Check.due("9 forge(-1, -1, " + n + ")", x.forge(-1L, -1L, n), true);
        }
        Check.due("9 heap()", x.heap(), 5);
        x.decode(1);
        Check.due("9 count(2) of these lengths", x.count(2), 5);
        x.clear();
        List<Integer> row = Model.strand(0, 0, 255, 254, 253, 252);
        // Bits above the last letter are no part of the read.
        x.forge(Model.half(row, 0), Model.half(row, 1) | -1L << 26, 45);
        for (int s = 1; s < 10; s++) {
            forgeRow(x, Model.strand(0, s, 0, 0, 0, s));
        }
        Check.due("9 decode(40)", x.decode(40), 1);
        Check.due("9 out(0)", x.out(0), 255);
        Check.due("9 out(3)", x.out(3), 252);
        Check.due("9 out(39)", x.out(39), 9);
    }

    private static void promise10Shuffle() {
        StrandArchive x = new StrandArchive();
        Check.due("10 shuffle(0) of nothing", x.shuffle(0), true);
        for (int seed : new int[] {0, 1, 7, 65536, 123456789, HIGH, -1, LOW}) {
            shuffleAndDecode(seed);
        }
    }

    private static void shuffleAndDecode(int seed) {
        StrandArchive x = new StrandArchive();
        fillBytes(x, 80);
        x.write(80);
        for (int strand = 0; strand < 32; strand++) {
            if (strand % 3 == 1) {
                x.readCut(strand, strand % 33);
            } else if (strand % 7 != 0) {
                x.read(strand);
            }
        }
        forgeRow(x, Model.strand(1, 2, 3, 4, 5, 6));
        x.decode(80);
        int[] before = digest(x);
        Check.due("10 shuffle(" + seed + ")", x.shuffle(seed), seed >= 0);
        x.decode(80);
        sameDigest("10 after shuffle(" + seed + ")", digest(x), before);
    }

    private static void promise11Heap() {
        StrandArchive x = new StrandArchive();
        x.write(1);
        x.read(0);
        Check.due("11 heap() after read", x.heap(), 1);
        x.readCut(1, 1);
        Check.due("11 heap() after readCut", x.heap(), 2);
        x.readGrown(2, 2, 2);
        Check.due("11 heap() after readGrown", x.heap(), 3);
        x.forge(0L, 0L, 0);
        Check.due("11 heap() after forge", x.heap(), 4);
        x.shuffle(3);
        x.decode(1);
        Check.due("11 heap() after shuffle and decode", x.heap(), 4);
        x.write(161);
        Check.due("11 heap() after a refused write", x.heap(), 4);
        x.write(1);
        Check.due("11 heap() after a write", x.heap(), 0);
    }

    private static void promise12Decode() {
        StrandArchive x = new StrandArchive();
        fillBytes(x, 60);
        x.write(60);
        readStrands(x, 0, 32);
        Check.due("12 decode(60)", x.decode(60), 1);
        int[] before = digest(x);
        for (int n : new int[] {0, -1, 161, LOW, HIGH}) {
            Check.due("12 decode(" + n + ")", x.decode(n), -1);
        }
        sameDigest("12 after refused ones", digest(x), before);
        Check.due("12 decode(30) of a longer one", x.decode(30), 1);
        Check.due("12 count(0) of a longer one", x.count(0), 30);
        Check.due("12 count(2) of a longer one", x.count(2), 16);
        Check.due("12 out(29) of a longer one", x.out(29), byteAt(29));
        Check.due("12 decode(160) of a shorter one", x.decode(160), 0);
        Check.due("12 count(2) of a shorter one", x.count(2), 0);
        Check.due("12 block(3, 0) of a shorter one", x.block(3, 0), 16);
        Check.due("12 out(59) of a shorter one", x.out(59), byteAt(59));
        Check.due("12 out(60) of a shorter one", x.out(60), 0);
        Check.due("12 decode(60) again", x.decode(60), 1);
        sameDigest("12 again", digest(x), before);
    }

    private static void promise13Out() {
        StrandArchive x = new StrandArchive();
        fillBytes(x, 160);
        x.write(160);
        readStrands(x, 0, 64);
        x.decode(160);
        for (int i = 0; i < 160; i++) {
            Check.due("13 out(" + i + ")", x.out(i), byteAt(i));
        }
        x.decode(41);
        Check.due("13 out(40)", x.out(40), byteAt(40));
        for (int i : new int[] {-1, 41, 79, 160, LOW, HIGH}) {
            Check.dueThrow("13 out(" + i + ")", () -> x.out(i));
        }
        x.decode(0);
        Check.due("13 out(40) after a refused decode", x.out(40), byteAt(40));
    }

    private static void promise14Count() {
        StrandArchive x = new StrandArchive();
        for (int what : new int[] {-1, 3, LOW, HIGH}) {
            Check.due("14 count(" + what + ")", x.count(what), -1);
        }
        x.write(41);
        x.readCut(0, 0);
        x.readGrown(0, 0, 1);
        x.readCut(1, 0);
        x.readCut(16, 0);
        x.read(17);
        x.decode(41);
        Check.due("14 count(0)", x.count(0), 41);
        Check.due("14 count(1)", x.count(1), 4);
        Check.due("14 count(2)", x.count(2), 2);
        x.decode(40);
        Check.due("14 count(0) of one block", x.count(0), 40);
        Check.due("14 count(1) of one block", x.count(1), 3);
        Check.due("14 count(2) of one block", x.count(2), 4);
        x.clear();
        Check.due("14 count(2) of the latest decoding", x.count(2), 4);
        x.decode(40);
        Check.due("14 count(1) of nothing", x.count(1), 0);
        Check.due("14 count(3)", x.count(3), -1);
    }

    private static void promise15Block() {
        StrandArchive x = new StrandArchive();
        fillBytes(x, 80);
        x.write(80);
        readStrands(x, 0, 14);
        lie(x, 14, 1);
        readStrands(x, 16, 25);
        x.decode(80);
        Check.due("15 block(0, 0)", x.block(0, 0), 1);
        Check.due("15 block(0, 1)", x.block(0, 1), 1);
        Check.due("15 block(1, 0) of a lost one", x.block(1, 0), 7);
        Check.due("15 block(1, 1) of a lost one", x.block(1, 1), -1);
        int[][] wrong = {{-1, 0}, {2, 0}, {0, -1}, {0, 2}, {LOW, 0}, {HIGH, 0}, {0, LOW}, {0, HIGH}, {3, 1}};
        for (int[] pair : wrong) {
            Check.dueThrow("15 block(" + pair[0] + ", " + pair[1] + ")", () -> x.block(pair[0], pair[1]));
        }
        x.decode(40);
        Check.dueThrow("15 block(1, 0) of one block", () -> x.block(1, 0));
    }

    private static void promise16Product() {
        StrandArchive x = new StrandArchive();
        Model model = new Model();
        Check.due("16 product(2, 128)", x.product(2, 128), 29);
        Check.due("16 product(128, 128)", x.product(128, 128), 19);
        Check.due("16 product(3, 7)", x.product(3, 7), 9);
        Check.due("16 product(0, 0)", x.product(0, 0), 0);
        Check.due("16 product(256, 255)", x.product(256, 255), 0);
        Check.due("16 product(-255, 77)", x.product(-255, 77), 77);
        Check.due("16 product(LOW + 2, HIGH)", x.product(LOW + 2, HIGH), x.product(2, 255));
        for (int a = 0; a < 256; a++) {
            StrandArchive y = new StrandArchive();
            for (int b = 0; b < 256; b++) {
                Check.due("16 product(" + a + ", " + b + ")", y.product(a, b), model.product(a, b));
            }
        }
    }

    private static void tails() {
        List<Integer> row = Model.strand(0, 3, 1, 2, 3, 4);
        List<Integer> body = row.subList(0, 33);
        dueTaken("a whole read", row, 0);
        for (int part = 0; part < 4; part++) {
            for (int place = 0; place < 3; place++) {
                int i = 33 + 3 * part + place;
                List<Integer> bent = new ArrayList<>(row);
                bent.set(i, (row.get(i) + 1) % 4);
                dueTaken("one bent letter at " + i, bent, 0);
                bent.set(33 + 3 * part + (place + 1) % 3, (row.get(i) + 2) % 4);
                dueDropped("three letters at " + part + " of the tail", bent);
            }
        }
        int signature = Model.signature(body);
        int sum = Model.sum(body);
        dueDropped("a wrong sum", Model.withTail(body, (sum + 1) % 4, signature / 16, signature / 4 % 4, signature % 4));
        int other = (signature + 1) % 33;
        dueDropped("a wrong signature", Model.withTail(body, sum, other / 16, other / 4 % 4, other % 4));
        otherLengths();
        tiesInSignatures();
        signatureLimit();
    }

    /** Reads that would do with a letter more or less between the body and the tail. */
    private static void otherLengths() {
        for (int data = 0; data < 256; data++) {
            List<Integer> row = Model.strand(0, 3, data, 0, 0, 0);
            List<Integer> longer = Model.with(row, 5, 2);
            List<Integer> shorter = Model.without(row, 5);
            for (int length = 47; length <= 60; length++) {
                longer = Model.with(longer, 34, data % 4);
                dueDropped(length + " letters", longer);
            }
            // Where the body's last letter is the tail's first, one of the two could stand for both.
            dueDropped("43 letters", Model.without(shorter, 31));
            dueDropped("42 letters", Model.without(Model.without(shorter, 30), 30));
        }
    }

    /** Three unlike letters must not count as a digit of -1, which a higher one would make good. */
    private static void tiesInSignatures() {
        for (int data = 0; data < 256; data++) {
            List<Integer> body = Model.strand(0, 3, data, 0, 0, 0).subList(0, 33);
            int sum = Model.sum(body);
            int signature = Model.signature(body);
            int more = signature + 1;
            List<Integer> low = Model.withTail(body, sum, more / 16, more / 4 % 4, 0);
            low.set(43, 1);
            low.set(44, 2);
            dueDropped("no last letter of the signature", low);
            List<Integer> middle = Model.withTail(body, sum, signature / 16 + 1, 0, signature % 4);
            middle.set(40, 1);
            middle.set(41, 2);
            dueDropped("no middle letter of the signature", middle);
        }
    }

    /** The signature 33 would be the same as 0 if it were not refused: a body with signature 0 shows it. */
    private static void signatureLimit() {
        for (int data = 0; data < 256; data++) {
            List<Integer> body = Model.strand(0, 3, data, 0, 0, 0).subList(0, 33);
            if (Model.signature(body) == 0) {
                int sum = Model.sum(body);
                dueTaken("a signature of 0", Model.withTail(body, sum, 0, 0, 0), 0);
                dueDropped("a signature of 33", Model.withTail(body, sum, 2, 0, 1));
                dueDropped("a cut one with a signature of 33", Model.without(Model.withTail(body, sum, 2, 0, 1), 5));
                return;
            }
        }
        Check.due("a body with signature 0 was found", false, true);
    }

    private static void fixing() {
        for (int data = 0; data < 256; data += 17) {
            List<Integer> row = Model.strand(0, 3, data, 255 - data, 2 * data % 256, 7);
            for (int at = 0; at < 33; at++) {
                dueTaken("cut at " + at, Model.without(row, at), 1);
            }
            for (int at = 0; at < 34; at++) {
                for (int letter = 0; letter < 4; letter++) {
                    dueTaken("grown at " + at + " with " + letter, Model.with(row, at, letter), 1);
                }
            }
        }
        List<Integer> body = Model.strand(0, 3, 0, 0, 0, 0).subList(0, 33);
        List<Integer> tail = Model.strand(0, 3, 200, 100, 50, 25).subList(33, 45);
        List<Integer> cut = Model.without(body, 32);
        cut.addAll(tail);
        List<Integer> grown = Model.with(body, 33, 1);
        grown.addAll(tail);
        dueAsModel("a cut one with another's tail", cut);
        dueAsModel("a grown one with another's tail", grown);
        readsAreTakenEachByItself();
    }

    private static void readsAreTakenEachByItself() {
        List<Integer> three = new ArrayList<>(writtenBody(0));
        three.set(0, 3);
        for (int at = 0; at < 33; at++) {
            StrandArchive x = writtenBlock();
            for (int s = 0; s < 16; s++) {
                forgeRow(x, Model.withTail(three));
                x.readCut(s, at);
                forgeRow(x, Model.with(Model.withTail(three), 0, 2));
            }
            dueDecoding("cut ones between others", x, 40, 1, 16, 32, 0, 0);
        }
    }

    private static void refusedBodies() {
        List<Integer> good = Model.strand(0, 3, 1, 2, 3, 4).subList(0, 33);
        dueTaken("the good body", Model.withTail(good), 0);
        for (int i = 0; i < 32; i++) {
            List<Integer> equal = new ArrayList<>(good);
            equal.set(i + 1, equal.get(i));
            dueDroppedInAllForms("equal neighbours at " + i, Model.withTail(equal));
        }
        List<Integer> three = new ArrayList<>(good);
        three.set(0, 3);
        dueDroppedInAllForms("a first letter 3", Model.withTail(three));
        dueTaken("a group of 65535", Model.strand(0, 3, 255, 255, 0, 0), 0);
        dueTaken("a last group of 65535", Model.strand(0, 3, 0, 0, 255, 255), 0);
        dueDroppedInAllForms("a first group of 65536", Model.strand(256, 0, 0, 0, 0, 0));
        dueDroppedInAllForms("a second group of 65536", Model.strand(0, 3, 256, 0, 0, 0));
        dueDroppedInAllForms("a third group of 65536", Model.strand(0, 3, 0, 0, 256, 0));
        dueDroppedInAllForms("a third group of 177146", Model.strand(0, 3, 0, 0, 691, 250));
        dueDroppedInAllForms("a block that n has not", Model.strand(1, 3, 0, 0, 0, 0));
        dueDroppedInAllForms("the block 255", Model.strand(255, 3, 0, 0, 0, 0));
        dueTaken("the strand 15", Model.strand(0, 15, 0, 0, 0, 0), 0);
        dueDroppedInAllForms("the strand 16", Model.strand(0, 16, 0, 0, 0, 0));
        dueDroppedInAllForms("the strand 255", Model.strand(0, 255, 0, 0, 0, 0));
    }

    private static void slots() {
        StrandArchive x = writtenBlock();
        readStrands(x, 0, 16);
        x.read(3);
        x.readCut(3, 3);
        lie(x, 4, 15);
        dueDecoding("slots said twice and thrice", x, 40, 1, 1, 5, 2, 0);
        for (int i = 0; i < 40; i++) {
            Check.due("out(" + i + ") behind slots said twice", x.out(i), byteAt(i));
        }
        x.forge(0L, 0L, 45);
        x.readGrown(5, 0, 2);
        x.clear();
        readStrands(x, 0, 16);
        forgeRow(x, Model.withTail(Model.without(writtenBody(6), 0)));
        dueDecoding("a dropped read says no slot", x, 40, 1, 0, 1, 0, 0);
    }

    /** Lies in all columns of so many strands, and so many strands that vanish: twice the one and the other are at most 6. */
    private static void mending() {
        for (int vanished = 0; vanished <= 8; vanished++) {
            for (int lies = 0; lies <= 4; lies++) {
                if (vanished == 6 && lies > 0) {
                    continue;
                }
                StrandArchive x = writtenBlock();
                for (int k = 0; k < 16; k++) {
                    int s = (k * 5 + 3 * vanished + lies) % 16;
                    if (k >= vanished && k < vanished + lies) {
                        lie(x, s, 15);
                    } else if (k >= vanished) {
                        x.read(s);
                    }
                }
                boolean fits = 2 * lies + vanished <= 6;
                String name = vanished + " vanished, " + lies + " lie";
                dueDecoding(name, x, 40, fits ? 1 : 0, 0, 0, vanished, fits ? lies : -1);
                for (int i = 0; i < 40; i += 3) {
                    Check.due(name + ": out(" + i + ")", x.out(i), fits ? byteAt(i) : 0);
                }
            }
        }
        liesInOneColumnEach();
        oneColumnLosesAll();
        liesWithNothingToSpare();
    }

    private static void liesInOneColumnEach() {
        StrandArchive x = writtenBlock();
        for (int s = 0; s < 16; s++) {
            if (s < 12) {
                lie(x, s, 1 << s % 4);
            } else {
                x.read(s);
            }
        }
        dueDecoding("three lies in each column", x, 40, 1, 0, 0, 0, 12);
        for (int i = 0; i < 40; i++) {
            Check.due("three lies in each column: out(" + i + ")", x.out(i), byteAt(i));
        }
    }

    private static void oneColumnLosesAll() {
        StrandArchive x = writtenBlock();
        for (int s = 0; s < 16; s++) {
            if (s < 4) {
                lie(x, s, 8);
            } else {
                x.read(s);
            }
        }
        dueDecoding("four lies in the last column", x, 40, 0, 0, 0, 0, -1);
        for (int i = 0; i < 40; i++) {
            Check.due("four lies in the last column: out(" + i + ")", x.out(i), 0);
        }
    }

    /** With six erased strands any ten others are part of a word with zero sums: a lie is believed. */
    private static void liesWithNothingToSpare() {
        StrandArchive x = writtenBlock();
        lie(x, 0, 1);
        readStrands(x, 1, 10);
        dueDecoding("a lie with six erased", x, 40, 1, 0, 0, 6, 0);
        Check.due("a lie with six erased: out(0)", x.out(0), byteAt(0) ^ 1);
        Check.due("a lie with six erased: out(1)", x.out(1), byteAt(1));
    }

    private static void objectsAreApart() {
        StrandArchive x = new StrandArchive();
        StrandArchive y = new StrandArchive();
        x.load(0, 5);
        x.write(1);
        readStrands(x, 0, 16);
        x.decode(1);
        Check.due("another object's heap()", y.heap(), 0);
        Check.due("another object's write(1)", y.write(1), 16);
        Check.due("another object's letter(0, 11)", y.letter(0, 11), ZERO_STRAND.charAt(11) - '0');
        Check.due("another object's count(0)", y.count(0), 0);
    }

    private static int byteAt(int i) {
        return (i * 37 + 11) % 256;
    }

    private static void fillBytes(StrandArchive x, int n) {
        for (int i = 0; i < n; i++) {
            x.load(i, byteAt(i));
        }
    }

    private static StrandArchive writtenBlock() {
        StrandArchive x = new StrandArchive();
        fillBytes(x, 40);
        x.write(40);
        return x;
    }

    private static Model written() {
        Model model = new Model();
        for (int i = 0; i < 160; i++) {
            model.load(i, byteAt(i));
        }
        model.write(160);
        return model;
    }

    private static List<Integer> writtenBody(int strand) {
        List<Integer> letters = new ArrayList<>();
        for (int i = 0; i < 33; i++) {
            letters.add(WRITTEN.letter(strand, i));
        }
        return letters;
    }

    private static void readStrands(StrandArchive x, int from, int to) {
        for (int strand = from; strand < to; strand++) {
            Check.due("read(" + strand + ")", x.read(strand), true);
        }
    }

    /** A forged read for a written strand with other bytes in the columns of the mask. */
    private static void lie(StrandArchive x, int strand, int mask) {
        int[] six = Model.bytesOf(writtenBody(strand));
        for (int c = 0; c < 4; c++) {
            six[2 + c] ^= (mask >> c & 1) * (1 + (strand * 53 + c * 29) % 255);
        }
        forgeRow(x, Model.strand(six));
    }

    private static void forgeRow(StrandArchive x, List<Integer> row) {
        Check.due("forge of " + row.size() + " letters", x.forge(Model.half(row, 0), Model.half(row, 1), row.size()), true);
    }

    private static void dueTaken(String what, List<Integer> row, int fixed) {
        StrandArchive x = new StrandArchive();
        forgeRow(x, row);
        dueDecoding(what, x, 40, 0, fixed, 0, 15, -1);
    }

    private static void dueDropped(String what, List<Integer> row) {
        StrandArchive x = new StrandArchive();
        forgeRow(x, row);
        dueDecoding(what, x, 40, 0, 0, 1, 16, -1);
    }

    private static void dueDroppedInAllForms(String what, List<Integer> row) {
        dueDropped(what, row);
        for (int at = 0; at < 33; at += 8) {
            dueDropped(what + ", cut at " + at, Model.without(row, at));
            dueDropped(what + ", grown at " + at, Model.with(row, at, at / 8 % 4));
        }
    }

    private static void dueAsModel(String what, List<Integer> row) {
        Model model = new Model();
        model.forge(Model.half(row, 0), Model.half(row, 1), row.size());
        model.decode(40);
        StrandArchive x = new StrandArchive();
        forgeRow(x, row);
        dueDecoding(what, x, 40, 0, model.count(1), model.count(2), model.block(0, 0), -1);
    }

    private static void dueDecoding(String what, StrandArchive x, int n, int... due) {
        Check.due(what + ": decode(" + n + ")", x.decode(n), due[0]);
        Check.due(what + ": count(1)", x.count(1), due[1]);
        Check.due(what + ": count(2)", x.count(2), due[2]);
        Check.due(what + ": block(0, 0)", x.block(0, 0), due[3]);
        Check.due(what + ": block(0, 1)", x.block(0, 1), due[4]);
    }

    private static int[] digest(StrandArchive x) {
        int size = x.count(0);
        int blocks = (size + 39) / 40;
        int[] all = new int[size + 2 * blocks + 4];
        for (int i = 0; i < size; i++) {
            all[i] = x.out(i);
        }
        for (int k = 0; k < 2 * blocks; k++) {
            all[size + k] = x.block(k / 2, k % 2);
        }
        for (int what = 0; what < 3; what++) {
            all[size + 2 * blocks + what] = x.count(what);
        }
        all[all.length - 1] = x.heap();
        return all;
    }

    private static void sameDigest(String what, int[] got, int[] want) {
        Check.due(what + ": how many answers", got.length, want.length);
        for (int k = 0; k < want.length && k < got.length; k++) {
            Check.due(what + ": answer " + k, got[k], want[k]);
        }
    }
}
