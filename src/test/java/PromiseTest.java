import java.util.List;
import java.util.function.Consumer;
import java.util.function.Predicate;

/**
 * The sentences of the promises, each at the case that it names and at the nearest one on its other side.
 * No object is used for more than 512 calls, since what later ones answer is free.
 */
final class PromiseTest {
    private static final int LOW = Bench.LOW;
    private static final int HIGH = Bench.HIGH;

    public static void main(String[] args) {
        Check.sentence("An object is used for at most 512 calls after it has been made", PromiseTest::call512);
        Check.sentence("All memory is the class's own.", PromiseTest::objectsAreApart);
        loadAndWrite();
        heapAndReads();
        decodingAndAnswers();
        Check.finish("PromiseTest");
    }

    private static void loadAndWrite() {
        Check.sentence("1: All bytes 0; nothing written, an empty heap, nothing decoded.", PromiseTest::newObject);
        Check.sentence("2: Byte i (0 .. 159) that is to be written becomes b", PromiseTest::loadedBytes);
        Check.sentence("2: (its lowest eight bits)", PromiseTest::loadedBits);
        Check.sentence("2: false when there is no such place.", PromiseTest::loadRefuses);
        Check.sentence("3: The first n bytes are written, in place of what was", PromiseTest::writtenInPlace);
        Check.sentence("3: the heap becomes empty (the latest decoding stays).", PromiseTest::writeEmptiesTheHeap);
        Check.sentence("3: How many strands", PromiseTest::howManyStrands);
        Check.sentence("3: 0, changing nothing, when n is not 1 .. 160.", PromiseTest::writeRefuses);
        Check.sentence("4: Letter i of a written strand (block by block, 16 each)", PromiseTest::lettersBlockByBlock);
        Check.sentence("4: NONE when there is none.", PromiseTest::noSuchLetter);
    }

    private static void heapAndReads() {
        Check.sentence("5: The heap becomes empty.", PromiseTest::clearEmptiesTheHeap);
        Check.sentence("6: A copy of a written strand comes into the heap", PromiseTest::readCopies);
        Check.sentence("6: false, changing nothing, when there is none", PromiseTest::readRefusesStrands);
        Check.sentence("6: or the heap has 90 (so it is below, too).", PromiseTest::fullHeapRefuses);
        Check.sentence("7: Likewise without the body's letter at (0 .. 32).", PromiseTest::cutEverywhere);
        Check.sentence("7: the body's letter at (0 .. 32).", PromiseTest::readCutRefuses);
        Check.sentence("8: Likewise with a letter put in ahead of the body's letter at (33: behind the body).",
                PromiseTest::grownEverywhere);
        Check.sentence("8: a letter put in ahead of the body's letter at (33: behind the body).", PromiseTest::readGrownRefuses);
        Check.sentence("9: A read of n letters (0 .. 60)", PromiseTest::forgedLengths);
        Check.sentence("9: letter i is two bits of a, from the lowest on, for i below 32, then of b.", PromiseTest::forgedBits);
        Check.sentence("10: The heap in another order", PromiseTest::orderCountsForNothing);
        Check.sentence("10: False, changing nothing, when the seed is below 0.", PromiseTest::shuffleRefuses);
        Check.sentence("11: How many reads the heap has.", PromiseTest::heapCounts);
    }

    private static void decodingAndAnswers() {
        Check.sentence("12: Decodes the heap as n bytes (as many as were written or not; the heap stays)",
                PromiseTest::decodeAsAnySize);
        Check.sentence("12: 1 when no block is lost, 0 otherwise", PromiseTest::decodeTellsOfLostBlocks);
        Check.sentence("12: NONE, changing nothing, when n is not 1 .. 160.", PromiseTest::decodeRefuses);
        Check.sentence("13: Byte i that was decoded, 0 .. 255.", PromiseTest::decodedBytes);
        Check.sentence("13: NoSuchElementException: there is none.", PromiseTest::noSuchByte);
        Check.sentence("14: what 0 how many bytes, 1 reads that were fixed (also if their slot was none of theirs), 2 dropped.",
                PromiseTest::counts);
        Check.sentence("14: 0 before any", PromiseTest::countsBeforeAny);
        Check.sentence("14: NONE for another what.", PromiseTest::noSuchCount);
        Check.sentence("15: what 0 how many strands were erased, 1 in how many others some byte was changed",
                PromiseTest::blockCounts);
        Check.sentence("15: (NONE when it is lost)", PromiseTest::lostBlocks);
        Check.sentence("15: NoSuchElementException: there is no such block or what.", PromiseTest::noSuchBlock);
        Check.sentence("16: A product in the field", PromiseTest::allProducts);
        Check.sentence("16: (of the lowest eight bits).", PromiseTest::productBits);
    }

    /** Each kind of call as the 512th one; what the 513th answers is free. */
    private static void call512() {
        lastCall("write(41)", x -> x.write(41) == 32);
        lastCall("letter(0, 44)", x -> x.letter(0, 44) == Model.strand(0, 0, 11, 48, 85, 122).get(44));
        lastCall("load(159, 1)", x -> x.load(159, 1));
        lastCall("read(15)", x -> x.read(15));
        lastCall("read(16)", x -> !x.read(16));
        lastCall("readCut(15, 32)", x -> x.readCut(15, 32));
        lastCall("readGrown(15, 33, 3)", x -> x.readGrown(15, 33, 3));
        lastCall("forge(1, 1, 60)", x -> x.forge(1L, 1L, 60));
        lastCall("shuffle(5)", x -> x.shuffle(5));
        lastCall("heap()", x -> x.heap() == 89);
        lastCall("decode(40)", x -> x.decode(40) == 1);
        lastCall("out(39)", x -> x.out(39) == Bench.byteAt(39));
        lastCall("count(2)", x -> x.count(2) == 79);
        lastCall("block(0, 0)", x -> x.block(0, 0) == 6);
        lastCall("product(128, 2)", x -> x.product(128, 2) == 29);
    }

    /** Behind 41 calls that write, 89 that read, and 381 decodings of all that. */
    private static void lastCall(String call, Predicate<StrandArchive> asDue) {
        StrandArchive x = Bench.written(40);
        for (int k = 0; k < 89; k++) {
            if (k < 10) {
                x.readCut(k, k);
            } else {
                x.readGrown(15, k % 34, k % 4);
            }
        }
        for (int k = 0; k < 381; k++) {
            Check.due("decode(40) as call " + (131 + k), x.decode(40), 1);
        }
        Check.due(call + " as call 512 is as due", asDue.test(x), true);
    }

    private static void objectsAreApart() {
        StrandArchive x = Bench.written(160);
        StrandArchive y = new StrandArchive();
        Bench.readStrands(x, 0, 64);
        x.decode(160);
        Check.due("another object's heap()", y.heap(), 0);
        Check.due("another object's letter(0, 0)", y.letter(0, 0), -1);
        Check.due("another object's count(0)", y.count(0), 0);
        Check.due("another object's write(40)", y.write(40), 16);
        Bench.readStrands(y, 0, 16);
        y.decode(40);
        Bench.dueOutZero("another object", y, 0, 40);
        Bench.dueOut("the first object", x, 0, 160);
    }

    private static void newObject() {
        StrandArchive x = new StrandArchive();
        Check.due("heap()", x.heap(), 0);
        Check.due("letter(0, 0)", x.letter(0, 0), -1);
        Check.due("read(0)", x.read(0), false);
        Check.due("readCut(0, 0)", x.readCut(0, 0), false);
        Check.due("readGrown(0, 0, 0)", x.readGrown(0, 0, 0), false);
        Check.dueThrow("out(0)", () -> x.out(0));
        Check.dueThrow("block(0, 0)", () -> x.block(0, 0));
        Check.dueThrow("block(0, 1)", () -> x.block(0, 1));
        Check.due("decode(160) of nothing", x.decode(160), 0);
        Check.due("count(2) of nothing", x.count(2), 0);
        Check.due("write(160)", x.write(160), 64);
        Bench.readStrands(x, 0, 64);
        Check.due("decode(160)", x.decode(160), 1);
        Bench.dueOutZero("bytes that were not loaded", x, 0, 160);
    }

    private static void loadedBytes() {
        for (int i : new int[] {0, 1, 39, 40, 158, 159}) {
            StrandArchive x = new StrandArchive();
            Check.due("load(" + i + ", 9)", x.load(i, 9), true);
            Check.due("load(" + i + ", 77)", x.load(i, 77), true);
            x.write(160);
            Check.due("a load behind the write", x.load(i, 1), true);
            Bench.readStrands(x, 0, 64);
            x.decode(160);
            for (int k = 0; k < 160; k++) {
                Check.due("out(" + k + ")", x.out(k), k == i ? 77 : 0);
            }
        }
    }

    private static void loadedBits() {
        int[] loaded = {255, 256, 257, 511, 512, -1, -2, -255, -256, -257, 128, 127, HIGH, LOW, LOW + 1};
        int[] due = {255, 0, 1, 255, 0, 255, 254, 1, 0, 255, 128, 127, 255, 0, 1};
        StrandArchive x = new StrandArchive();
        for (int i = 0; i < loaded.length; i++) {
            Check.due("load(" + i + ", " + loaded[i] + ")", x.load(i, loaded[i]), true);
        }
        x.write(40);
        Bench.readStrands(x, 0, 16);
        x.decode(40);
        for (int i = 0; i < loaded.length; i++) {
            Check.due("out(" + i + ") of " + loaded[i], x.out(i), due[i]);
        }
    }

    private static void loadRefuses() {
        StrandArchive x = new StrandArchive();
        Bench.fillBytes(x, 160);
        for (int i : new int[] {-1, 160, -160, 161, 255, 256, LOW, HIGH}) {
            Check.due("load(" + i + ", 1)", x.load(i, 1), false);
        }
        Check.due("load(0, 11)", x.load(0, Bench.byteAt(0)), true);
        Check.due("load(159, 6)", x.load(159, Bench.byteAt(159)), true);
        x.write(160);
        Bench.readStrands(x, 0, 64);
        x.decode(160);
        Bench.dueOut("behind refused loads", x, 0, 160);
    }

    private static void writtenInPlace() {
        StrandArchive x = Bench.written(160);
        x.load(1, 99);
        Check.due("letter(0, 21) before the next write", x.letter(0, 21), Model.strand(0, 0, 11, 48, 85, 122).get(21));
        Check.due("write(2)", x.write(2), 16);
        Bench.dueLetters(x, 0, Model.strand(0, 0, 11, 99, 0, 0));
        Bench.dueLetters(x, 9, Model.strand(0, 9, 0, 0, 0, 0));
        Check.due("letter(16, 0) behind a smaller write", x.letter(16, 0), -1);
        Check.due("read(16) behind a smaller write", x.read(16), false);
        Check.due("write(3)", x.write(3), 16);
        Bench.dueLetters(x, 0, Model.strand(0, 0, 11, 99, 85, 0));
        Check.due("write(41)", x.write(41), 32);
        Bench.dueLetters(x, 16, Model.strand(1, 0, Bench.byteAt(40), 0, 0, 0));
    }

    private static void writeEmptiesTheHeap() {
        StrandArchive x = Bench.written(40);
        for (int k = 0; k < 90; k++) {
            x.read(k < 16 ? k : 15);
        }
        x.decode(40);
        int[] before = Bench.digest(x);
        Check.due("write(40)", x.write(40), 16);
        Check.due("heap()", x.heap(), 0);
        before[0] = 0;
        Bench.sameDigest("the latest decoding behind a write", Bench.digest(x), before);
        x.load(0, 99);
        x.write(1);
        Check.due("out(0) behind a write of another byte", x.out(0), Bench.byteAt(0));
        Check.due("read(0) into the empty heap", x.read(0), true);
        Check.due("decode(40) of one read", x.decode(40), 0);
        Check.due("block(0, 0) of one read", x.block(0, 0), 15);
    }

    private static void howManyStrands() {
        int[] sizes = {1, 2, 39, 40, 41, 79, 80, 81, 119, 120, 121, 159, 160};
        int[] strands = {16, 16, 16, 16, 32, 32, 32, 48, 48, 48, 64, 64, 64};
        StrandArchive x = new StrandArchive();
        for (int k = 0; k < sizes.length; k++) {
            Check.due("write(" + sizes[k] + ")", x.write(sizes[k]), strands[k]);
            Check.due("letter of the last strand of " + sizes[k], x.letter(strands[k] - 1, 44) >= 0, true);
            Check.due("letter behind the last strand of " + sizes[k], x.letter(strands[k], 44), -1);
        }
    }

    private static void writeRefuses() {
        StrandArchive x = Bench.written(40);
        Bench.readStrands(x, 0, 15);
        x.decode(40);
        int[] before = Bench.digest(x);
        x.load(0, 99);
        for (int n : new int[] {0, 161, -1, 200, LOW, HIGH}) {
            Check.due("write(" + n + ")", x.write(n), 0);
        }
        Bench.sameDigest("behind refused writes", Bench.digest(x), before);
        Bench.dueLetters(x, 0, Model.strand(0, 0, 11, 48, 85, 122));
        Check.due("decode(40) of the heap that stayed", x.decode(40), 1);
        Bench.sameDigest("the heap that stayed", Bench.digest(x), before);
        Check.due("write(1)", x.write(1), 16);
        Bench.dueLetters(x, 0, Model.strand(0, 0, 99, 0, 0, 0));
        Check.due("write(160)", x.write(160), 64);
    }

    private static void lettersBlockByBlock() {
        for (int b = 0; b < 4; b++) {
            StrandArchive x = Bench.written(160);
            for (int s = 0; s < 16; s += 5) {
                Bench.dueLetters(x, 16 * b + s, Model.withTail(Bench.writtenBody(16 * b + s)));
            }
        }
    }

    private static void noSuchLetter() {
        StrandArchive none = new StrandArchive();
        Check.due("letter(0, 0) before any write", none.letter(0, 0), -1);
        int[] sizes = {1, 40, 41, 160};
        for (int n : sizes) {
            StrandArchive x = Bench.written(n);
            int strands = (n + 39) / 40 * 16;
            for (int strand : new int[] {0, strands - 1}) {
                Check.due("letter(" + strand + ", 0) is one", x.letter(strand, 0) >= 0, true);
                Check.due("letter(" + strand + ", 44) is one", x.letter(strand, 44) >= 0, true);
                for (int i : new int[] {-1, 45, 46, 60, LOW, HIGH}) {
                    Check.due("letter(" + strand + ", " + i + ")", x.letter(strand, i), -1);
                }
            }
            for (int strand : new int[] {-1, strands, 64, LOW, HIGH}) {
                Check.due("letter(" + strand + ", 0)", x.letter(strand, 0), -1);
                Check.due("letter(" + strand + ", 44)", x.letter(strand, 44), -1);
            }
        }
    }

    private static void clearEmptiesTheHeap() {
        StrandArchive x = Bench.written(40);
        x.clear();
        Check.due("heap() of an empty one", x.heap(), 0);
        for (int k = 0; k < 90; k++) {
            x.read(k % 16);
        }
        x.decode(40);
        int[] before = Bench.digest(x);
        x.clear();
        Check.due("heap() of a full one", x.heap(), 0);
        before[0] = 0;
        Bench.sameDigest("all else behind clear", Bench.digest(x), before);
        Bench.dueDecoding("nothing", x, 40, 0, 0, 0, 16, -1);
        for (int k = 0; k < 90; k++) {
            Check.due("read " + k + " behind clear", x.read(k % 16), true);
        }
        Check.due("read 90 behind clear", x.read(0), false);
    }

    private static void readCopies() {
        StrandArchive x = Bench.written(160);
        for (int strand : new int[] {0, 15, 16, 63}) {
            x.clear();
            Check.due("read(" + strand + ")", x.read(strand), true);
            Check.due("heap()", x.heap(), 1);
            x.decode(160);
            for (int b = 0; b < 4; b++) {
                Check.due("block(" + b + ", 0)", x.block(b, 0), b == strand / 16 ? 15 : 16);
            }
        }
        x.clear();
        Bench.readStrands(x, 0, 64);
        Check.due("decode(160)", x.decode(160), 1);
        Bench.dueOut("all strands", x, 0, 160);
    }

    private static void readRefusesStrands() {
        for (int n : new int[] {1, 40, 41, 160}) {
            StrandArchive x = Bench.written(n);
            int strands = (n + 39) / 40 * 16;
            Check.due("read(0) of " + n, x.read(0), true);
            Check.due("read(" + (strands - 1) + ") of " + n, x.read(strands - 1), true);
            for (int strand : new int[] {-1, strands, LOW, HIGH}) {
                dueRefused("read(" + strand + ")", x, y -> y.read(strand));
                dueRefused("readCut(" + strand + ", 0)", x, y -> y.readCut(strand, 0));
                dueRefused("readGrown(" + strand + ", 0, 0)", x, y -> y.readGrown(strand, 0, 0));
            }
        }
    }

    private static void dueRefused(String call, StrandArchive x, Predicate<StrandArchive> made) {
        int before = x.heap();
        Check.due(call, made.test(x), false);
        Check.due("heap() behind " + call, x.heap(), before);
    }

    private static void fullHeapRefuses() {
        dueTheLastOne("read", x -> x.read(15));
        dueTheLastOne("readCut", x -> x.readCut(15, 32));
        dueTheLastOne("readGrown", x -> x.readGrown(15, 33, 3));
        dueTheLastOne("forge", x -> x.forge(0L, 0L, 60));
    }

    /** Strands 0 to 9 once each, and 79 reads of no length; then the 90th is taken and the 91st refused. */
    private static void dueTheLastOne(String call, Predicate<StrandArchive> made) {
        StrandArchive x = Bench.written(40);
        Bench.readStrands(x, 0, 10);
        for (int k = 0; k < 79; k++) {
            x.forge(0L, 0L, 0);
        }
        Check.due(call + " into a heap of 89", made.test(x), true);
        Check.due("heap() behind it", x.heap(), 90);
        x.decode(40);
        int[] before = Bench.digest(x);
        Check.due(call + " into a heap of 90", made.test(x), false);
        Check.due("read(10) into a heap of 90", x.read(10), false);
        Check.due("heap() behind them", x.heap(), 90);
        x.decode(40);
        Bench.sameDigest("the heap behind a refused " + call, Bench.digest(x), before);
    }

    private static void cutEverywhere() {
        for (int at = 0; at < 33; at++) {
            StrandArchive x = Bench.used(40);
            for (int s = 0; s < 10; s++) {
                Check.due("readCut(" + s + ", " + at + ")", x.readCut(s, at), true);
            }
            Bench.dueDecoding("cut at " + at, x, 40, 1, 10, 0, 6, 0);
            Bench.dueOut("cut at " + at, x, 0, 40);
        }
    }

    private static void readCutRefuses() {
        StrandArchive x = Bench.written(40);
        Check.due("readCut(0, 0)", x.readCut(0, 0), true);
        Check.due("readCut(15, 32)", x.readCut(15, 32), true);
        int[][] wrong = {{0, -1}, {0, 33}, {0, 44}, {0, 45}, {0, LOW}, {0, HIGH},
            {-1, 0}, {16, 0}, {16, 33}, {LOW, 0}, {HIGH, 0}};
        for (int[] pair : wrong) {
            dueRefused("readCut(" + pair[0] + ", " + pair[1] + ")", x, y -> y.readCut(pair[0], pair[1]));
        }
        Bench.dueDecoding("behind refused ones", x, 40, 0, 2, 0, 14, -1);
    }

    private static void grownEverywhere() {
        for (int at = 0; at <= 33; at++) {
            for (int letter = 0; letter < 4; letter++) {
                StrandArchive x = Bench.used(40);
                for (int s = 0; s < 10; s++) {
                    Check.due("readGrown(" + s + ", " + at + ", " + letter + ")", x.readGrown(s, at, letter), true);
                }
                Bench.dueDecoding("grown at " + at, x, 40, 1, 10, 0, 6, 0);
                Bench.dueOut("grown at " + at, x, 0, 40);
            }
        }
    }

    private static void readGrownRefuses() {
        StrandArchive x = Bench.written(40);
        Check.due("readGrown(0, 0, 0)", x.readGrown(0, 0, 0), true);
        Check.due("readGrown(15, 33, 3)", x.readGrown(15, 33, 3), true);
        int[][] wrong = {{0, -1, 0}, {0, 34, 0}, {0, 45, 0}, {0, 0, -1}, {0, 0, 4}, {0, 33, 4}, {-1, 0, 0}, {16, 0, 0},
            {LOW, 0, 0}, {HIGH, 0, 0}, {0, LOW, 0}, {0, HIGH, 0}, {0, 0, LOW}, {0, 0, HIGH}};
        for (int[] three : wrong) {
            dueRefused("readGrown(" + three[0] + ", " + three[1] + ", " + three[2] + ")", x,
                    y -> y.readGrown(three[0], three[1], three[2]));
        }
        Bench.dueDecoding("behind refused ones", x, 40, 0, 2, 0, 14, -1);
    }

    private static void forgedLengths() {
        StrandArchive x = new StrandArchive();
        for (int n : new int[] {-1, 61, 64, LOW, HIGH}) {
            dueRefused("forge(-1, -1, " + n + ")", x, y -> y.forge(-1L, -1L, n));
        }
        for (int n = 0; n <= 60; n++) {
            Check.due("forge(-1, -1, " + n + ")", x.forge(-1L, -1L, n), true);
            Check.due("heap()", x.heap(), n + 1);
        }
        x.decode(1);
        Check.due("count(2) of these", x.count(2), 61);
        forgedOneLongerOrShorter();
    }

    /** A tail that is one letter off has two right letters in each three still, so 44 and 46 letters do as well as 45. */
    private static void forgedOneLongerOrShorter() {
        List<Integer> row = Model.strand(0, 3, 1, 2, 3, 4);
        for (int n = 0; n <= 60; n++) {
            StrandArchive x = Bench.allButOne(3);
            x.forge(Model.half(row, 0), Model.half(row, 1), n);
            if (n >= 44 && n <= 46) {
                Bench.dueDecoding("the first " + n + " letters", x, 40, 1, n == 45 ? 0 : 1, 0, 6, 0);
            } else {
                Bench.dueDecoding("the first " + n + " letters", x, 40, 0, 0, 1, 7, -1);
            }
        }
    }

    /** Letters 31 and 32, the last of a and the first of b, take all values with the last data byte. */
    private static void forgedBits() {
        for (int data = 0; data < 256; data++) {
            Bench.dueTaken("forged with " + data, Model.strand(0, 3, 255, 254, 253, data), 0, 3, 255, 254, 253, data);
        }
        List<Integer> row = Model.strand(0, 3, 9, 8, 7, 6);
        StrandArchive x = Bench.allButOne(3);
        // Bits above the last letter are no part of the read, those of the last letter are.
        x.forge(Model.half(row, 0), Model.half(row, 1) | -1L << 26, 45);
        Check.due("decode(40) with bits above the read", x.decode(40), 1);
        Check.due("out(15) with bits above the read", x.out(15), 6);
        x = Bench.allButOne(3);
        x.forge(Model.half(row, 0), Model.half(row, 1) ^ 3L << 22 ^ 3L << 24, 45);
        Check.due("decode(40) with other bits in the last two letters", x.decode(40), 0);
        Check.due("count(2) with other bits in the last two letters", x.count(2), 1);
    }

    private static void orderCountsForNothing() {
        StrandArchive none = new StrandArchive();
        Check.due("shuffle(0) of nothing", none.shuffle(0), true);
        Check.due("heap()", none.heap(), 0);
        for (int seed : new int[] {0, 1, 7, 65535, 65536, 123456789, HIGH - 1, HIGH}) {
            shuffled(seed, true);
        }
    }

    private static void shuffleRefuses() {
        for (int seed : new int[] {-1, -2, -65536, LOW, LOW + 1}) {
            shuffled(seed, false);
        }
        StrandArchive none = new StrandArchive();
        Check.due("shuffle(-1) of nothing", none.shuffle(-1), false);
        Check.due("shuffle(0) of nothing", none.shuffle(0), true);
    }

    private static void shuffled(int seed, boolean due) {
        StrandArchive x = Bench.written(80);
        for (int strand = 0; strand < 32; strand++) {
            if (strand % 3 == 1) {
                x.readCut(strand, strand);
            } else if (strand % 7 != 0) {
                x.read(strand);
            }
        }
        Bench.lie(x, 18, 15);
        x.decode(80);
        int[] before = Bench.digest(x);
        Check.due("shuffle(" + seed + ")", x.shuffle(seed), due);
        x.decode(80);
        Bench.sameDigest("behind shuffle(" + seed + ")", Bench.digest(x), before);
    }

    private static void heapCounts() {
        StrandArchive x = Bench.written(40);
        dueHeap(x, "write", 0, y -> { });
        dueHeap(x, "read", 1, y -> y.read(0));
        dueHeap(x, "readCut", 2, y -> y.readCut(1, 1));
        dueHeap(x, "readGrown", 3, y -> y.readGrown(2, 2, 2));
        dueHeap(x, "forge", 4, y -> y.forge(0L, 0L, 0));
        dueHeap(x, "shuffle", 4, y -> y.shuffle(3));
        dueHeap(x, "decode", 4, y -> y.decode(1));
        dueHeap(x, "a refused write", 4, y -> y.write(161));
        for (int k = 5; k <= 90; k++) {
            dueHeap(x, "read", k, y -> y.read(0));
        }
        dueHeap(x, "a refused read", 90, y -> y.read(0));
        dueHeap(x, "clear", 0, y -> y.clear());
    }

    private static void dueHeap(StrandArchive x, String call, int due, Consumer<StrandArchive> made) {
        made.accept(x);
        Check.due("heap() behind " + call, x.heap(), due);
    }

    private static void decodeAsAnySize() {
        StrandArchive x = Bench.written(80);
        Bench.readStrands(x, 0, 32);
        Bench.dueDecoding("as many as were written", x, 80, 1, 0, 0, 0, 0);
        Bench.dueDecoding("one block of two", x, 40, 1, 0, 16, 0, 0);
        Check.due("count(0)", x.count(0), 40);
        Bench.dueDecoding("one byte of 80", x, 1, 1, 0, 16, 0, 0);
        Check.due("count(0)", x.count(0), 1);
        Bench.dueDecoding("one byte of the second block", x, 41, 1, 0, 0, 0, 0);
        Bench.dueOut("one byte of the second block", x, 0, 41);
        Bench.dueDecoding("three blocks of two", x, 81, 0, 0, 0, 0, 0);
        Check.due("block(2, 0)", x.block(2, 0), 16);
        Bench.dueDecoding("four blocks of two", x, 160, 0, 0, 0, 0, 0);
        Bench.dueOut("four blocks of two", x, 0, 80);
        Bench.dueOutZero("four blocks of two", x, 80, 160);
        Check.due("heap()", x.heap(), 32);
        Bench.dueDecoding("again", x, 80, 1, 0, 0, 0, 0);
        Bench.dueOut("again", x, 0, 80);
    }

    /** Seven of one block's strands vanish, or six. */
    private static void decodeTellsOfLostBlocks() {
        for (int b = 0; b < 4; b++) {
            StrandArchive x = Bench.written(160);
            for (int strand = 0; strand < 64; strand++) {
                if (strand / 16 != b || strand % 16 >= 7) {
                    x.read(strand);
                }
            }
            Check.due("decode(160) with seven of block " + b + " away", x.decode(160), 0);
            x.read(16 * b);
            Check.due("decode(160) with six of block " + b + " away", x.decode(160), 1);
            x.clear();
            Check.due("decode(160) of nothing", x.decode(160), 0);
            Check.due("decode(1) of nothing", x.decode(1), 0);
        }
    }

    private static void decodeRefuses() {
        StrandArchive x = Bench.written(60);
        Bench.readStrands(x, 0, 31);
        x.decode(60);
        int[] before = Bench.digest(x);
        x.readCut(31, 0);
        before[0]++;
        for (int n : new int[] {0, 161, -1, 200, LOW, HIGH}) {
            Check.due("decode(" + n + ")", x.decode(n), -1);
        }
        Bench.sameDigest("behind refused ones", Bench.digest(x), before);
        Check.due("decode(1)", x.decode(1), 1);
        Check.due("count(0)", x.count(0), 1);
        Check.due("decode(160)", x.decode(160), 0);
        Check.due("count(0)", x.count(0), 160);
        StrandArchive none = new StrandArchive();
        Check.due("decode(0) of a new object", none.decode(0), -1);
        Check.due("decode(161) of a new object", none.decode(161), -1);
        Check.due("count(0) of a new object", none.count(0), 0);
        Check.dueThrow("out(0) of a new object", () -> none.out(0));
    }

    private static void decodedBytes() {
        for (int first : new int[] {0, 128}) {
            StrandArchive x = new StrandArchive();
            for (int i = 0; i < 128; i++) {
                x.load(i, first + i);
            }
            x.write(128);
            Bench.readStrands(x, 0, 64);
            x.decode(128);
            for (int i = 0; i < 128; i++) {
                Check.due("out(" + i + ")", x.out(i), first + i);
            }
        }
    }

    private static void noSuchByte() {
        StrandArchive none = new StrandArchive();
        Check.dueThrow("out(0) before any decoding", () -> none.out(0));
        for (int n : new int[] {1, 39, 40, 41, 159, 160}) {
            StrandArchive x = Bench.written(n);
            Bench.readStrands(x, 0, (n + 39) / 40 * 16);
            x.decode(n);
            Check.due("out(0) of " + n, x.out(0), Bench.byteAt(0));
            Check.due("out(" + (n - 1) + ")", x.out(n - 1), Bench.byteAt(n - 1));
            for (int i : new int[] {-1, n, n + 1, 160, LOW, HIGH}) {
                Check.dueThrow("out(" + i + ") of " + n, () -> x.out(i));
            }
            x.write(160);
            Check.dueThrow("out(" + n + ") behind a write", () -> x.out(n));
            x.clear();
            x.decode(n);
            Check.due("out(" + (n - 1) + ") of lost ones", x.out(n - 1), 0);
            Check.dueThrow("out(" + n + ") of lost ones", () -> x.out(n));
        }
    }

    private static void counts() {
        StrandArchive x = Bench.written(80);
        x.readCut(0, 0);
        x.readGrown(0, 0, 1);
        x.readCut(1, 0);
        x.readCut(16, 0);
        x.read(17);
        x.forge(0L, 0L, 43);
        x.decode(41);
        dueCounts("two blocks", x, 41, 4, 3);
        x.decode(40);
        dueCounts("one block", x, 40, 3, 5);
        x.clear();
        dueCounts("behind clear", x, 40, 3, 5);
        x.write(1);
        dueCounts("behind write", x, 40, 3, 5);
        x.decode(161);
        dueCounts("behind a refused decode", x, 40, 3, 5);
        x.decode(160);
        dueCounts("of nothing", x, 160, 0, 0);
    }

    private static void dueCounts(String what, StrandArchive x, int... due) {
        for (int k = 0; k < 3; k++) {
            Check.due(what + ": count(" + k + ")", x.count(k), due[k]);
        }
    }

    private static void countsBeforeAny() {
        StrandArchive x = new StrandArchive();
        dueCounts("a new object", x, 0, 0, 0);
        x.write(40);
        x.readCut(0, 0);
        x.forge(0L, 0L, 0);
        x.decode(0);
        dueCounts("nothing decoded", x, 0, 0, 0);
        x.decode(40);
        dueCounts("decoded", x, 40, 1, 1);
    }

    private static void noSuchCount() {
        StrandArchive x = new StrandArchive();
        for (int turn = 0; turn < 2; turn++) {
            for (int what : new int[] {-1, 3, LOW, HIGH}) {
                Check.due("count(" + what + ")", x.count(what), -1);
            }
            x.write(160);
            x.decode(160);
        }
    }

    private static void blockCounts() {
        for (int lies = 0; lies <= 2; lies++) {
            StrandArchive x = Bench.written(80);
            Bench.readStrands(x, 0, 16);
            Bench.readStrands(x, 16, 30 - lies);
            for (int k = 1; k <= lies; k++) {
                // Not the same columns; a strand counts once, in however many of them it lies.
                Bench.lie(x, 30 - k, k == 1 ? 15 : 4);
            }
            x.decode(80);
            Check.due("block(0, 0)", x.block(0, 0), 0);
            Check.due("block(0, 1)", x.block(0, 1), 0);
            Check.due("block(1, 0) with " + lies + " lies", x.block(1, 0), 2);
            Check.due("block(1, 1) with " + lies + " lies", x.block(1, 1), lies);
            x.write(160);
            Check.due("block(1, 0) behind write", x.block(1, 0), 2);
        }
    }

    private static void lostBlocks() {
        StrandArchive x = Bench.written(120);
        Bench.readStrands(x, 0, 10);
        Bench.readStrands(x, 16, 25);
        x.decode(120);
        int[][] due = {{6, 0}, {7, -1}, {16, -1}};
        for (int b = 0; b < 3; b++) {
            Check.due("block(" + b + ", 0)", x.block(b, 0), due[b][0]);
            Check.due("block(" + b + ", 1)", x.block(b, 1), due[b][1]);
        }
        x.read(25);
        x.decode(120);
        Check.due("block(1, 0) with one read more", x.block(1, 0), 6);
        Check.due("block(1, 1) with one read more", x.block(1, 1), 0);
    }

    private static void noSuchBlock() {
        StrandArchive none = new StrandArchive();
        Check.dueThrow("block(0, 0) before any decoding", () -> none.block(0, 0));
        int[] sizes = {1, 40, 41, 80, 81, 120, 121, 160};
        for (int k = 0; k < sizes.length; k++) {
            int n = sizes[k];
            int last = k / 2;
            StrandArchive x = new StrandArchive();
            x.decode(n);
            Check.due("block(0, 0) of " + n, x.block(0, 0), 16);
            Check.due("block(" + last + ", 1) of " + n, x.block(last, 1), -1);
            for (int b : new int[] {-1, last + 1, 4, LOW, HIGH}) {
                Check.dueThrow("block(" + b + ", 0) of " + n, () -> x.block(b, 0));
                Check.dueThrow("block(" + b + ", 1) of " + n, () -> x.block(b, 1));
            }
            for (int what : new int[] {-1, 2, LOW, HIGH}) {
                Check.dueThrow("block(0, " + what + ") of " + n, () -> x.block(0, what));
                Check.dueThrow("block(" + (last + 1) + ", " + what + ") of " + n, () -> x.block(last + 1, what));
            }
        }
        StrandArchive x = new StrandArchive();
        x.decode(160);
        x.decode(40);
        Check.dueThrow("block(1, 0) behind a decoding of four blocks", () -> x.block(1, 0));
    }

    private static void allProducts() {
        Model model = new Model();
        for (int a = 0; a < 256; a++) {
            StrandArchive x = new StrandArchive();
            for (int b = 0; b < 256; b++) {
                Check.due("product(" + a + ", " + b + ")", x.product(a, b), model.product(a, b));
            }
        }
        StrandArchive x = new StrandArchive();
        for (int a : new int[] {0, 1, 2, 128, 255}) {
            Check.due("product(" + a + ", 0)", x.product(a, 0), 0);
            Check.due("product(0, " + a + ")", x.product(0, a), 0);
            Check.due("product(" + a + ", 1)", x.product(a, 1), a);
            Check.due("product(1, " + a + ")", x.product(1, a), a);
        }
    }

    private static void productBits() {
        StrandArchive x = new StrandArchive();
        int[] wide = {255, 256, 257, 258, 511, 512, -1, -255, -256, -257, HIGH, LOW, LOW + 2};
        int[] narrow = {255, 0, 1, 2, 255, 0, 255, 1, 0, 255, 255, 0, 2};
        for (int k = 0; k < wide.length; k++) {
            Check.due("product(" + wide[k] + ", 1)", x.product(wide[k], 1), narrow[k]);
            Check.due("product(1, " + wide[k] + ")", x.product(1, wide[k]), narrow[k]);
            Check.due("product(" + wide[k] + ", 77)", x.product(wide[k], 77), x.product(narrow[k], 77));
        }
        Check.due("product(-1, -1)", x.product(-1, -1), 226);
        Check.due("product(HIGH, HIGH)", x.product(HIGH, HIGH), 226);
    }
}
