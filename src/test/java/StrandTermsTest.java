import java.util.List;

/**
 * The sentences of 'Terms' on what is written: letters, strands, digits, the tail, blocks, parity and the field.
 * Each at the case that it names and at the nearest one on its other side; what is due is worked out by hand.
 */
final class StrandTermsTest {
    /** Block 0, strand 0, data 0 0 0 0: all digits are 0, so 0 and 1 take turns; the sum is 16, the signature 256. */
    private static final String ALL_ZERO = "01010101010 10101010101 01010101010 000 111 222 111";

    /** The letters that digits 0, 1 and 2 become behind a letter 0, 1, 2 and 3. */
    private static final int[][] BEHIND = {{1, 2, 3}, {0, 2, 3}, {0, 1, 3}, {0, 1, 2}};

    public static void main(String[] args) {
        Check.sentence("LETTERS are 0 .. 3.", StrandTermsTest::lettersAreFour);
        Check.sentence("A STRAND is a BODY of 33 letters and a TAIL of 12.", StrandTermsTest::strandHas45Letters);
        Check.sentence("three groups of two bytes each, 256 * first + second, as eleven digits in base 3, the highest first",
                StrandTermsTest::groupsAreElevenDigits);
        Check.sentence("a digit d after a letter p (ahead of the first one p is 3) is the d-th, from 0, of the letters other "
                + "than p in rising order", StrandTermsTest::digitsBecomeOtherLetters);
        Check.sentence("The six bytes are the block's number, the strand's number in it, and four DATA bytes.",
                StrandTermsTest::firstGroupIsBlockAndStrand);
        Check.sentence("the SUM of the body's letters modulo 4", StrandTermsTest::sumWrapsAtFour);
        Check.sentence("the sum of all i from 1 to 32 for which letter i is not less than letter i - 1",
                StrandTermsTest::signatureGoesFrom1To32);
        Check.sentence("modulo 33", StrandTermsTest::signatureWrapsAt33);
        Check.sentence("as three letters in base 4, the highest first; each of these four letters three times",
                StrandTermsTest::signatureIsInBase4);
        Check.sentence("n bytes (1 .. 160) are put into blocks of 40", StrandTermsTest::blocksHave40Bytes);
        Check.sentence("(the last one has 0 behind them)", StrandTermsTest::lastBlockEndsInZeros);
        Check.sentence("strand s of a block, 0 .. 9, has bytes 4 s .. 4 s + 3 of it", StrandTermsTest::strandHasFourBytes);
        Check.sentence("Strands 10 .. 15 are PARITY", StrandTermsTest::parityBeginsAtTen);
        Check.sentence("for each of the four COLUMNS (the c-th data byte of the strands) and each j from 0 to 5, the sum over "
                + "all 16 strands s of byte * 2 to the power (j * s) is 0", StrandTermsTest::sixSumsAreZero);
        Check.sentence("products as of polynomials whose bits are coefficients, modulo x^8 + x^4 + x^3 + x^2 + 1; 2 is x.",
                StrandTermsTest::productsWrapAtTheEighthPower);
        Check.finish("StrandTermsTest");
    }

    private static void lettersAreFour() {
        StrandArchive x = Bench.written(40);
        boolean[] seen = new boolean[4];
        for (int i = 0; i < 450; i++) {
            int letter = x.letter(i % 10, i / 10);
            Check.due("letter(" + i % 10 + ", " + i / 10 + ") is one of four", letter >= 0 && letter <= 3, true);
            seen[letter & 3] = true;
        }
        for (int letter = 0; letter < 4; letter++) {
            Check.due("the letter " + letter + " is in use", seen[letter], true);
        }
        x = Bench.written(40);
        Check.due("readGrown(0, 0, 0)", x.readGrown(0, 0, 0), true);
        Check.due("readGrown(0, 0, -1)", x.readGrown(0, 0, -1), false);
        Check.due("readGrown(0, 0, 3)", x.readGrown(0, 0, 3), true);
        Check.due("readGrown(0, 0, 4)", x.readGrown(0, 0, 4), false);
    }

    private static void strandHas45Letters() {
        StrandArchive x = dataStrand(255, 254, 0, 1);
        // Its body's last letter is 2, its tail's first three are 3.
        int[] due = {2, 3, 3, 3, 0};
        for (int k = 0; k < due.length; k++) {
            Check.due("letter(0, " + (32 + k) + ")", x.letter(0, 32 + k), due[k]);
        }
        Check.due("letter(0, 44)", x.letter(0, 44), 1);
        Check.due("letter(0, 45)", x.letter(0, 45), -1);
    }

    /** 65535 is 10022220020 in base 3, 65534 is 10022220012, and 59049 is the highest digit's 1 with ten zeros behind it. */
    private static void groupsAreElevenDigits() {
        dueStrand(ALL_ZERO, 0, 0, 0, 0);
        dueStrand("01010101010 20132320130 20132320130 333 000 333 111", 255, 255, 255, 255);
        dueStrand("01010101010 20132320123 01010101012 333 000 222 111", 255, 254, 0, 1);
        dueStrand("01010101010 10101010102 01010101012 333 111 222 000", 0, 1, 0, 1);
        dueStrand("01010101010 13232323232 10101010101 111 111 222 111", 230, 168, 230, 169);
        dueStrand("01010101010 20101010101 03232323232 111 111 222 111", 230, 169, 230, 168);
        for (int power = 1; power < 65536; power *= 3) {
            int less = power - 1;
            int[] data = {power / 256, power % 256, less / 256, less % 256};
            List<Integer> row = Model.strand(0, 0, data[0], data[1], data[2], data[3]);
            Bench.dueLetters(dataStrand(data), 0, row);
            Bench.dueTaken("groups of " + power + " and one less", row, 0, 0, data);
        }
    }

    private static void digitsBecomeOtherLetters() {
        boolean[] seen = new boolean[12];
        for (int b = 0; b < 4; b++) {
            StrandArchive x = Bench.written(160);
            for (int s = 0; s < 10; s++) {
                int first = 40 * b + 4 * s;
                int before = 3;
                for (int i = 0; i < 33; i++) {
                    int pair = i < 11 ? 256 * b + s : pairAt(first + i / 22 * 2);
                    int digit = pair / power(10 - i % 11) % 3;
                    seen[3 * before + digit] = true;
                    before = BEHIND[before][digit];
                    Check.due("letter(" + (16 * b + s) + ", " + i + ")", x.letter(16 * b + s, i), before);
                }
            }
        }
        for (int k = 0; k < 12; k++) {
            Check.due("digit " + k % 3 + " behind letter " + k / 3 + " has been met", seen[k], true);
        }
        StrandArchive x = Bench.written(160);
        for (int strand = 0; strand < 64; strand++) {
            Check.due("letter(" + strand + ", 0) behind 3", x.letter(strand, 0), 0);
        }
    }

    private static void firstGroupIsBlockAndStrand() {
        StrandArchive x = new StrandArchive();
        x.write(160);
        Bench.dueLetters(x, 0, Bench.row("01010101010"));
        Bench.dueLetters(x, 9, Bench.row("01010101201"));
        Bench.dueLetters(x, 10, Bench.row("01010101202"));
        Bench.dueLetters(x, 15, Bench.row("01010101230"));
        Bench.dueLetters(x, 16, Bench.row("01010201212"));
        Bench.dueLetters(x, 63, Bench.row("01012013010"));
    }

    /** Sums of 18, 19, 20 and 21. */
    private static void sumWrapsAtFour() {
        dueStrand("01010101010 10101010101 01010101030 222 111 222 111", 0, 0, 0, 6);
        dueStrand("01010101010 10101010101 01010101031 333 111 222 111", 0, 0, 0, 7);
        dueStrand("01010101010 10101010101 01010101032 000 111 222 111", 0, 0, 0, 8);
        dueStrand("01010101010 10101010101 01010101213 111 111 111 333", 0, 0, 0, 14);
    }

    /** Letter 32 is less than letter 31, so the sum is 256, modulo 33 that is 25; then it is not, and 288 is 24. */
    private static void signatureGoesFrom1To32() {
        dueStrand(ALL_ZERO, 0, 0, 0, 0);
        dueStrand("01010101010 10101010101 01010101012 222 111 222 000", 0, 0, 0, 1);
        dueStrand("01010101010 10101010101 01010101021 222 111 222 111", 0, 0, 0, 4);
        dueStrand("01010101010 10101010101 01010101023 000 111 222 000", 0, 0, 0, 5);
    }

    /** Sums of 230, 231 = 7 * 33, and 199 = 6 * 33 + 1. */
    private static void signatureWrapsAt33() {
        dueStrand("01010101010 10101010101 02102102032 000 222 000 000", 0, 0, 106, 115);
        dueStrand("01010101010 10101010101 02102102101 111 000 000 000", 0, 0, 106, 116);
        dueStrand("01010101010 10101010101 02102103210 333 000 000 111", 0, 0, 106, 155);
    }

    /** Signatures of 15 and 16, 31 and 32. */
    private static void signatureIsInBase4() {
        dueStrand("01010101010 10101010101 01012301230 000 000 333 333", 0, 0, 4, 206);
        dueStrand("01010101010 10101010101 01012301201 222 111 000 000", 0, 0, 4, 200);
        dueStrand("01010101010 10101010101 01021032101 222 111 333 333", 0, 0, 12, 69);
        dueStrand("01010101010 10101010101 01032102101 222 222 000 000", 0, 0, 23, 223);
    }

    private static void blocksHave40Bytes() {
        int[] sizes = {1, 40, 41, 80, 81, 120, 121, 160};
        for (int k = 0; k < sizes.length; k++) {
            int blocks = k / 2 + 1;
            StrandArchive x = Bench.written(sizes[k]);
            Check.due("the last strand's letter of " + sizes[k], x.letter(16 * blocks - 1, 0), 0);
            Check.due("a letter behind them of " + sizes[k], x.letter(16 * blocks, 0), -1);
        }
        StrandArchive x = new StrandArchive();
        x.load(39, 200);
        x.load(40, 100);
        x.write(41);
        Bench.dueLetters(x, 9, Model.strand(0, 9, 0, 0, 0, 200));
        Bench.dueLetters(x, 16, Model.strand(1, 0, 100, 0, 0, 0));
        Check.due("write(0)", x.write(0), 0);
        Check.due("write(161)", x.write(161), 0);
    }

    private static void lastBlockEndsInZeros() {
        int[] sizes = {1, 38, 39, 40, 41, 121, 159, 160};
        for (int n : sizes) {
            StrandArchive x = new StrandArchive();
            for (int i = 0; i < 160; i++) {
                x.load(i, 255);
            }
            x.write(n);
            int last = (n - 1) / 40;
            for (int s = 6; s < 16; s++) {
                x.read(16 * last + s);
            }
            // The other strands vanish, so that the parity has to know of the zeros too.
            x.decode(160);
            for (int i = 40 * last; i < 40 * last + 40; i++) {
                Check.due("out(" + i + ") of " + n, x.out(i), i < n ? 255 : 0);
            }
        }
    }

    private static void strandHasFourBytes() {
        for (int b = 0; b < 4; b++) {
            StrandArchive x = Bench.written(160);
            for (int s = 0; s < 10; s += 3) {
                int i = 40 * b + 4 * s;
                Bench.dueLetters(x, 16 * b + s, Model.strand(b, s,
                        Bench.byteAt(i), Bench.byteAt(i + 1), Bench.byteAt(i + 2), Bench.byteAt(i + 3)));
            }
        }
        StrandArchive x = new StrandArchive();
        x.load(3, 77);
        x.load(4, 78);
        x.write(40);
        Bench.dueLetters(x, 0, Model.strand(0, 0, 0, 0, 0, 77));
        Bench.dueLetters(x, 1, Model.strand(0, 1, 78, 0, 0, 0));
    }

    /** One byte of 1 in strand 0, or 9: what six sums ask of the others has been worked out by elimination. */
    private static void parityBeginsAtTen() {
        dueParity(0, 42, 12, 130, 43, 181, 59);
        dueParity(9, 209, 233, 147, 44, 170, 44);
        StrandArchive x = Bench.written(40);
        Bench.dueLetters(x, 9, Model.strand(0, 9, Bench.byteAt(36), Bench.byteAt(37), Bench.byteAt(38), Bench.byteAt(39)));
    }

    private static void dueParity(int s, int... parity) {
        for (int c = 0; c < 4; c++) {
            StrandArchive x = new StrandArchive();
            x.load(4 * s + c, 1);
            x.write(40);
            for (int k = 0; k < 6; k++) {
                int[] six = {0, 10 + k, 0, 0, 0, 0};
                six[2 + c] = parity[k];
                Bench.dueLetters(x, 10 + k, Model.strand(six));
            }
        }
    }

    private static void sixSumsAreZero() {
        for (int b = 0; b < 4; b++) {
            int[][] bytes = bytesOfBlock(b);
            for (int c = 0; c < 4; c++) {
                for (int j = 0; j < 6; j++) {
                    Check.due("sum " + j + " of column " + c + " in block " + b, sum(bytes, c, j), 0);
                }
                Check.due("sum 6 of column " + c + " in block " + b + " is 0", sum(bytes, c, 6) == 0, false);
            }
        }
    }

    private static int[][] bytesOfBlock(int b) {
        int[][] bytes = new int[16][];
        for (int s = 0; s < 16; s++) {
            StrandArchive x = Bench.written(150);
            StringBuilder body = new StringBuilder();
            for (int i = 0; i < 33; i++) {
                body.append(x.letter(16 * b + s, i));
            }
            bytes[s] = Model.bytesOf(Bench.row(body.toString()));
        }
        return bytes;
    }

    private static int sum(int[][] bytes, int c, int j) {
        int sum = 0;
        for (int s = 0; s < 16; s++) {
            int term = bytes[s][2 + c];
            for (int factor = 0; factor < j * s; factor++) {
                term = term < 128 ? 2 * term : (2 * term - 256) ^ 0b11101;
            }
            sum ^= term;
        }
        return sum;
    }

    private static void productsWrapAtTheEighthPower() {
        StrandArchive x = new StrandArchive();
        Check.due("product(2, 127)", x.product(2, 127), 254);
        Check.due("product(2, 128)", x.product(2, 128), 0b11101);
        Check.due("product(64, 2)", x.product(64, 2), 128);
        Check.due("product(64, 4)", x.product(64, 4), 0b11101);
        Check.due("product(16, 15)", x.product(16, 15), 240);
        Check.due("product(16, 16)", x.product(16, 16), 0b11101);
        Check.due("product(128, 128)", x.product(128, 128), 19);
        Check.due("product(255, 255)", x.product(255, 255), 226);
        int power = 1;
        for (int e = 1; e <= 255; e++) {
            power = x.product(power, 2);
            Check.due("2 to the power " + e + " is 1", power == 1, e == 255);
        }
    }

    /** An archive whose strand 0 has these data bytes. */
    private static StrandArchive dataStrand(int... data) {
        StrandArchive x = new StrandArchive();
        for (int c = 0; c < 4; c++) {
            x.load(c, data[c]);
        }
        x.write(40);
        return x;
    }

    private static void dueStrand(String letters, int... data) {
        Bench.dueLetters(dataStrand(data), 0, Bench.row(letters));
    }

    private static int pairAt(int i) {
        return 256 * Bench.byteAt(i) + Bench.byteAt(i + 1);
    }

    private static int power(int exponent) {
        int power = 1;
        for (int k = 0; k < exponent; k++) {
            power *= 3;
        }
        return power;
    }
}
