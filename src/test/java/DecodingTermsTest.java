import java.util.ArrayList;
import java.util.List;

/**
 * The sentences of 'Terms' on what is read: the heap, decoding, slots, erased strands and lost blocks.
 * Each at the case that it names and at the nearest one on its other side.
 */
final class DecodingTermsTest {
    /** Most reads here are for strand 3 of block 0 with these data bytes. */
    private static final int[] DATA = {1, 2, 3, 4};
    private static final List<Integer> GOOD = Model.strand(0, 3, 1, 2, 3, 4);
    private static final List<Integer> GOOD_BODY = GOOD.subList(0, 33);

    public static void main(String[] args) {
        Check.sentence("THE HEAP holds READS, at most 90, each a row of up to 60 letters.", DecodingTermsTest::heapLimits);
        Check.sentence("DECODING takes each read by itself.", DecodingTermsTest::readsStandAlone);
        Check.sentence("One of 45 letters is WHOLE, of 44 CUT, of 46 GROWN; others are dropped.", DecodingTermsTest::lengths);
        Check.sentence("of each three the letter that stands there at least twice (dropped if there is none)",
                DecodingTermsTest::tailLettersByMajority);
        Check.sentence("the second to fourth say the signature (dropped if 33 or more)", DecodingTermsTest::signatureLimit);
        Check.sentence("The body of a whole one must have the sum and signature (else dropped).",
                DecodingTermsTest::wholeBodiesMustFit);
        Check.sentence("A cut one becomes the word of 33 letters with this sum and signature that comes of it by putting a "
                + "letter in", DecodingTermsTest::cutOnesAreFixed);
        Check.sentence("a grown one the word of 33 that comes of it by taking a letter out",
                DecodingTermsTest::grownOnesAreFixed);
        Check.sentence("(dropped if there is none; there are never two)", DecodingTermsTest::noWordFits);
        Check.sentence("That is FIXED.", DecodingTermsTest::wholeOnesAreNotFixed);
        Check.sentence("A body with two equal neighbours", DecodingTermsTest::equalNeighbours);
        Check.sentence("(or a first letter 3)", DecodingTermsTest::firstLetterThree);
        Check.sentence("a group of 65536 or more", DecodingTermsTest::groupLimit);
        Check.sentence("a block that n has not", DecodingTermsTest::blockLimit);
        Check.sentence("or a strand above 15 is dropped then (and was not fixed).", DecodingTermsTest::strandLimit);
        Check.sentence("A SLOT (block, strand) that two or more reads say (the same or not) is none of theirs: all of these "
                + "are dropped.", DecodingTermsTest::slotsSaidTwice);
        Check.sentence("Slots without a read are ERASED.", DecodingTermsTest::slotsWithoutRead);
        Check.sentence("differs from the reads in e strands which are not erased, where 2 e and the erased strands together "
                + "are at most 6", DecodingTermsTest::mendingLimit);
        Check.sentence("In each block each column is made the word with zero sums", DecodingTermsTest::columnsAreMendedApart);
        Check.sentence("if there is none for some column, the block is LOST", DecodingTermsTest::oneColumnLosesTheBlock);
        Check.sentence("Its bytes come of its first ten strands; of a lost one they are 0.", DecodingTermsTest::bytesOfABlock);
        Check.finish("DecodingTermsTest");
    }

    private static void heapLimits() {
        StrandArchive x = new StrandArchive();
        for (int k = 0; k < 90; k++) {
            Check.due("forge into a heap of " + k, x.forge(k, k, 45), true);
            Check.due("heap() behind it", x.heap(), k + 1);
        }
        Check.due("forge into a heap of 90", x.forge(0L, 0L, 45), false);
        Check.due("heap() behind it", x.heap(), 90);
        x = new StrandArchive();
        Check.due("forge of 60 letters", x.forge(-1L, -1L, 60), true);
        Check.due("forge of 61 letters", x.forge(-1L, -1L, 61), false);
        Check.due("heap() behind both", x.heap(), 1);
    }

    /** What one read leaves behind must not help or harm the next one, whole, cut or grown. */
    private static void readsStandAlone() {
        List<Integer> three = new ArrayList<>(Bench.writtenBody(0));
        three.set(0, 3);
        for (int at = 0; at < 33; at++) {
            StrandArchive x = Bench.written(40);
            for (int s = 0; s < 16; s++) {
                Bench.forge(x, Model.withTail(three));
                Bench.forge(x, inForm(s % 3, Model.withTail(Bench.writtenBody(s)), at));
                Bench.forge(x, Model.with(Model.withTail(three), 0, 2));
            }
            Bench.dueDecoding("good ones between others", x, 40, 1, 10, 32, 0, 0);
            Bench.dueOut("good ones between others", x, 0, 40);
        }
    }

    private static void lengths() {
        Bench.dueTaken("44 letters", Model.without(GOOD, 5), 1, 3, DATA);
        Bench.dueTaken("45 letters", GOOD, 0, 3, DATA);
        Bench.dueTaken("46 letters", Model.with(GOOD, 5, 2), 1, 3, DATA);
        for (int data = 0; data < 256; data++) {
            List<Integer> row = Model.strand(0, 3, data, 0, 0, 0);
            // Letters more or less between the body and the tail would do if the length were not looked at.
            List<Integer> longer = Model.with(row, 5, 2);
            for (int length = 47; length <= 60; length++) {
                longer = Model.with(longer, 34, data % 4);
                Bench.dueDropped(length + " letters", longer);
            }
            List<Integer> shorter = Model.without(row, 5);
            for (int length = 43; length >= 40; length--) {
                shorter = Model.without(shorter, length - 12);
                Bench.dueDropped(length + " letters", shorter);
            }
        }
        for (int length = 0; length < 44; length++) {
            Bench.dueDropped(length + " letters of a strand", GOOD.subList(0, length));
            Bench.dueDropped("the last " + length + " letters of a strand", GOOD.subList(45 - length, 45));
        }
    }

    private static void tailLettersByMajority() {
        for (int part = 0; part < 4; part++) {
            for (int odd = 0; odd < 3; odd++) {
                for (int step = 1; step < 4; step++) {
                    List<Integer> bent = new ArrayList<>(GOOD);
                    int i = 33 + 3 * part + odd;
                    bent.set(i, (GOOD.get(i) + step) % 4);
                    String name = "the letter " + i + " of the tail is another";
                    Bench.dueTaken(name, bent, 0, 3, DATA);
                    Bench.dueTaken(name + ", cut", Model.without(bent, 7), 1, 3, DATA);
                    Bench.dueTaken(name + ", grown", Model.with(bent, 7, 3), 1, 3, DATA);
                    int next = 33 + 3 * part + (odd + 1) % 3;
                    bent.set(next, (GOOD.get(i) + 1 + step % 3) % 4);
                    Bench.dueDroppedInAllForms("three letters in part " + part + " of the tail", bent);
                }
            }
        }
        noLetterIsNoDigit();
    }

    /** Three unlike letters must not count as a digit of -1, which a higher one would make good. */
    private static void noLetterIsNoDigit() {
        for (int data = 0; data < 256; data++) {
            List<Integer> body = Model.strand(0, 3, data, 0, 0, 0).subList(0, 33);
            int sum = Model.sum(body);
            int signature = Model.signature(body);
            int more = signature + 1;
            List<Integer> low = Model.withTail(body, sum, more / 16, more / 4 % 4, 0);
            low.set(43, 1);
            low.set(44, 2);
            Bench.dueDropped("no last letter of the signature", low);
            List<Integer> middle = Model.withTail(body, sum, signature / 16 + 1, 0, signature % 4);
            middle.set(40, 1);
            middle.set(41, 2);
            Bench.dueDropped("no middle letter of the signature", middle);
        }
    }

    /** 33 and more would be the same as 0 and more modulo 33 if they were not refused. */
    private static void signatureLimit() {
        for (int signature = 0; signature <= 32; signature++) {
            int[] data = dataWithSignature(signature);
            List<Integer> row = Model.strand(0, 3, data[0], data[1], data[2], data[3]);
            List<Integer> body = row.subList(0, 33);
            Bench.dueTaken("the signature " + signature, row, 0, 3, data);
            Bench.dueTaken("the signature " + signature + ", cut", Model.without(row, 9), 1, 3, data);
            Bench.dueTaken("the signature " + signature + ", grown", Model.with(row, 9, 0), 1, 3, data);
            int more = signature + 33;
            if (more < 64) {
                List<Integer> refused = Model.withTail(body, Model.sum(body), more / 16, more / 4 % 4, more % 4);
                Bench.dueDroppedInAllForms("the signature " + more, refused);
            }
        }
    }

    private static int[] dataWithSignature(int signature) {
        for (int k = 0; k < 65536; k++) {
            int[] data = {k % 256, k / 256, k / 256, k % 256};
            if (Model.signature(Model.strand(0, 3, data[0], data[1], data[2], data[3]).subList(0, 33)) == signature) {
                return data;
            }
        }
        throw new IllegalStateException("no body with the signature " + signature);
    }

    private static void wholeBodiesMustFit() {
        int sum = Model.sum(GOOD_BODY);
        int signature = Model.signature(GOOD_BODY);
        for (int k = 0; k < 4 * 33; k++) {
            List<Integer> row = Model.withTail(GOOD_BODY, k / 33, k % 33 / 16, k % 33 / 4 % 4, k % 33 % 4);
            if (k == 33 * sum + signature) {
                Bench.dueTaken("its own sum and signature", row, 0, 3, DATA);
            } else {
                Bench.dueDropped("the sum " + k / 33 + " and the signature " + k % 33, row);
            }
        }
    }

    private static void cutOnesAreFixed() {
        for (int data = 0; data < 256; data += 17) {
            int[] four = {data, 255 - data, 2 * data % 256, 7};
            List<Integer> row = Model.strand(0, 3, four[0], four[1], four[2], four[3]);
            for (int at = 0; at < 33; at++) {
                Bench.dueTaken("cut at " + at, Model.without(row, at), 1, 3, four);
            }
        }
    }

    private static void grownOnesAreFixed() {
        for (int data = 0; data < 256; data += 51) {
            int[] four = {data, 255 - data, 2 * data % 256, 7};
            List<Integer> row = Model.strand(0, 3, four[0], four[1], four[2], four[3]);
            for (int k = 0; k < 34 * 4; k++) {
                Bench.dueTaken("grown at " + k / 4 + " with " + k % 4, Model.with(row, k / 4, k % 4), 1, 3, four);
            }
        }
    }

    /** Every tail there is behind a body cut or grown: the model looks for a word by trying all, and tells if there are two. */
    private static void noWordFits() {
        int[] cut = new int[2];
        int[] grown = new int[2];
        for (int k = 0; k < 256; k++) {
            int[] tail = {k / 64, k / 16 % 4, k / 4 % 4, k % 4};
            cut[dueAsModel(Model.withTail(Model.without(GOOD_BODY, 20), tail))]++;
            grown[dueAsModel(Model.withTail(Model.with(GOOD_BODY, 32, 1), tail))]++;
        }
        Check.due("a cut one was taken with some tails", cut[1] > 0, true);
        Check.due("a cut one was dropped with some tails", cut[0] > 0, true);
        Check.due("a grown one was taken with some tails", grown[1] > 0, true);
        Check.due("a grown one was dropped with some tails", grown[0] > 0, true);
    }

    /** Answers how many strands the read makes known, 0 or 1. */
    private static int dueAsModel(List<Integer> row) {
        Model model = new Model();
        model.forge(Model.half(row, 0), Model.half(row, 1), row.size());
        model.decode(160);
        StrandArchive x = new StrandArchive();
        Bench.forge(x, row);
        Check.due("decode(160) of " + row, x.decode(160), 0);
        Check.due("count(1) of " + row, x.count(1), model.count(1));
        Check.due("count(2) of " + row, x.count(2), model.count(2));
        for (int b = 0; b < 4; b++) {
            Check.due("block(" + b + ", 0) of " + row, x.block(b, 0), model.block(b, 0));
        }
        return 1 - model.count(2);
    }

    private static void wholeOnesAreNotFixed() {
        for (int whole = 0; whole <= 10; whole++) {
            StrandArchive x = Bench.written(40);
            for (int s = 0; s < 10; s++) {
                if (s < whole) {
                    x.read(s);
                } else if (s % 2 == 0) {
                    x.readCut(s, s);
                } else {
                    x.readGrown(s, s, 2);
                }
            }
            Bench.dueDecoding(whole + " whole ones", x, 40, 1, 10 - whole, 0, 6, 0);
        }
    }

    /** At each place and with each letter; the digits behind the two letters are 0, so that no other reason drops it. */
    private static void equalNeighbours() {
        for (int k = 0; k < 32 * 4; k++) {
            List<Integer> start = new ArrayList<>(Model.strand(0, 0, 0, 0, 0, 0).subList(0, k / 4));
            int last = start.isEmpty() ? 3 : start.get(start.size() - 1);
            if (k % 4 == last) {
                continue;
            }
            start.add(k % 4);
            List<Integer> equal = new ArrayList<>(start);
            equal.add(k % 4);
            Bench.dueDroppedInAllForms("two letters " + k % 4 + " at " + k / 4, Model.withTail(withZeroDigits(equal)));
            List<Integer> unlike = withZeroDigits(start);
            int[] six = Model.bytesOf(unlike);
            if (six != null && six[0] == 0 && six[1] < 10) {
                Bench.dueTaken("unlike letters at " + k / 4, Model.withTail(unlike), 0, six[1], six[2], six[3], six[4], six[5]);
            }
        }
        for (int i = 0; i < 32; i++) {
            List<Integer> equal = new ArrayList<>(GOOD_BODY);
            equal.set(i + 1, equal.get(i));
            Bench.dueDroppedInAllForms("equal neighbours at " + i, Model.withTail(equal));
        }
    }

    private static List<Integer> withZeroDigits(List<Integer> start) {
        List<Integer> body = new ArrayList<>(start);
        while (body.size() < 33) {
            body.add(body.get(body.size() - 1) == 0 ? 1 : 0);
        }
        return body;
    }

    /** Behind the 3 all digits are 0: if it were a digit of 0, this would be block 0, strand 0. 1 and 2 are no slot. */
    private static void firstLetterThree() {
        List<Integer> zero = withZeroDigits(Bench.row("0"));
        Bench.dueTaken("a first letter 0", Model.withTail(zero), 0, 0, 0, 0, 0, 0);
        for (int letter = 1; letter <= 3; letter++) {
            List<Integer> body = withZeroDigits(Bench.row(Integer.toString(letter)));
            Bench.dueDroppedInAllForms("a first letter " + letter, Model.withTail(body));
        }
        List<Integer> three = new ArrayList<>(GOOD_BODY);
        three.set(0, 3);
        Bench.dueDroppedInAllForms("a first letter 3 instead of 0", Model.withTail(three));
    }

    private static void groupLimit() {
        Bench.dueTaken("a second group of 65535", Model.strand(0, 3, 255, 255, 0, 0), 0, 3, 255, 255, 0, 0);
        Bench.dueDroppedInAllForms("a second group of 65536", Model.strand(0, 3, 256, 0, 0, 0));
        Bench.dueDroppedInAllForms("a second group of 177146", Model.strand(0, 3, 691, 250, 0, 0));
        Bench.dueTaken("a third group of 65535", Model.strand(0, 3, 0, 0, 255, 255), 0, 3, 0, 0, 255, 255);
        Bench.dueDroppedInAllForms("a third group of 65536", Model.strand(0, 3, 0, 0, 256, 0));
        Bench.dueDroppedInAllForms("a third group of 177146", Model.strand(0, 3, 0, 0, 691, 250));
        // A first group is no slot long before it is too large; modulo 65536 this one would be.
        Bench.dueDroppedInAllForms("a first group of 65535", Model.strand(255, 255, 0, 0, 0, 0));
        Bench.dueDroppedInAllForms("a first group of 65536 + 3", Model.strand(256, 3, 0, 0, 0, 0));
    }

    private static void blockLimit() {
        int[] sizes = {1, 40, 41, 80, 81, 120, 121, 160};
        for (int k = 0; k < sizes.length; k++) {
            int last = k / 2;
            for (int form = 0; form < 3; form++) {
                StrandArchive x = new StrandArchive();
                Bench.forge(x, inForm(form, Model.strand(last, 7, 1, 1, 1, 1), 0));
                Bench.forge(x, inForm(form, Model.strand(last + 1, 7, 1, 1, 1, 1), 10));
                Bench.forge(x, inForm(form, Model.strand(255, 7, 1, 1, 1, 1), 32));
                Check.due("decode(" + sizes[k] + ")", x.decode(sizes[k]), 0);
                Check.due("count(1) of " + sizes[k], x.count(1), form == 0 ? 0 : 1);
                Check.due("count(2) of " + sizes[k], x.count(2), 2);
                Check.due("block(" + last + ", 0) of " + sizes[k], x.block(last, 0), 15);
            }
        }
    }

    private static void strandLimit() {
        for (int form = 0; form < 3; form++) {
            int fixed = form == 0 ? 0 : 1;
            for (int s = 0; s < 256; s++) {
                StrandArchive x = new StrandArchive();
                Bench.forge(x, inForm(form, Model.strand(0, s, 1, 2, 3, 4), s % 33));
                boolean taken = s <= 15;
                Bench.dueDecoding("the strand " + s, x, 40, 0, taken ? fixed : 0, taken ? 0 : 1, taken ? 15 : 16, -1);
            }
        }
    }

    /** The row whole, cut or grown. */
    private static List<Integer> inForm(int form, List<Integer> row, int at) {
        return form == 0 ? row : form == 1 ? Model.without(row, at) : Model.with(row, at, 3);
    }

    private static void slotsSaidTwice() {
        StrandArchive x = Bench.written(40);
        Bench.readStrands(x, 0, 16);
        Bench.dueDecoding("each slot said once", x, 40, 1, 0, 0, 0, 0);
        x.read(3);
        Bench.dueDecoding("a slot said twice, the same", x, 40, 1, 0, 2, 1, 0);
        x.readCut(3, 3);
        Bench.dueDecoding("a slot said thrice", x, 40, 1, 1, 3, 1, 0);
        Bench.lie(x, 4, 15);
        Bench.dueDecoding("a slot said twice, not the same", x, 40, 1, 1, 5, 2, 0);
        Bench.dueOut("slots said twice", x, 0, 40);
        Bench.forge(x, Model.withTail(Model.without(Bench.writtenBody(6), 0)));
        Bench.dueDecoding("a dropped read says no slot", x, 40, 1, 1, 6, 2, 0);
        slotsOfTwoBlocks();
        slotSaidNinetyTimes();
    }

    private static void slotsOfTwoBlocks() {
        StrandArchive x = Bench.written(80);
        Bench.readStrands(x, 0, 32);
        Bench.dueDecoding("the same strands of two blocks", x, 80, 1, 0, 0, 0, 0);
        x.read(16);
        Bench.dueDecoding("strand 0 of block 1 twice", x, 80, 1, 0, 2, 0, 0);
        Check.due("block(1, 0)", x.block(1, 0), 1);
    }

    private static void slotSaidNinetyTimes() {
        StrandArchive x = Bench.written(40);
        for (int k = 0; k < 90; k++) {
            x.readCut(15, k % 33);
        }
        Bench.dueDecoding("a slot said 90 times", x, 40, 0, 90, 90, 16, -1);
    }

    private static void slotsWithoutRead() {
        StrandArchive x = Bench.written(40);
        Bench.dueDecoding("no read at all", x, 40, 0, 0, 0, 16, -1);
        for (int s = 0; s < 16; s++) {
            x.read(s);
            int erased = 15 - s;
            boolean lost = erased > 6;
            Bench.dueDecoding(erased + " erased", x, 40, lost ? 0 : 1, 0, 0, erased, lost ? -1 : 0);
        }
    }

    private static void mendingLimit() {
        for (int erased = 0; erased <= 8; erased++) {
            for (int lies = 0; lies <= 4; lies++) {
                // With six erased strands any ten others are part of a word with zero sums, and a lie is believed.
                if (erased != 6 || lies == 0) {
                    mend(erased, lies);
                }
            }
        }
        lieWithSixErased();
        oneMoreThanOddOnesAllow();
        sumsThatAreZeroButForOne();
    }

    private static void lieWithSixErased() {
        StrandArchive x = Bench.written(40);
        Bench.lie(x, 0, 1);
        Bench.readStrands(x, 1, 10);
        Bench.dueDecoding("a lie with six erased", x, 40, 1, 0, 0, 6, 0);
        Check.due("a lie with six erased: out(0)", x.out(0), Bench.byteAt(0) ^ 1);
        Bench.dueOut("a lie with six erased", x, 1, 40);
    }

    /** Twice the lies and the erased strands are 7: words with zero sums differ in 7 strands, so no lie can be believed. */
    private static void oneMoreThanOddOnesAllow() {
        for (int lies = 1; lies <= 3; lies++) {
            int erased = 7 - 2 * lies;
            for (int value = 1; value < 256; value++) {
                StrandArchive x = new StrandArchive();
                for (int s = erased; s < 16; s++) {
                    int said = s < 16 - lies ? 0 : 1 + value * (16 - s) % 255;
                    Bench.forge(x, Model.strand(0, s, 0, 0, said, 0));
                }
                Bench.dueDecoding(lies + " lies of " + value + ", " + erased + " erased", x, 40, 0, 0, 0, erased, -1);
            }
        }
    }

    /** A column of which five sums are 0 all the same, with none to six strands erased; the model tries all words. */
    private static void sumsThatAreZeroButForOne() {
        for (int j = 0; j < 6; j++) {
            int[] sums = new int[6];
            sums[j] = 1;
            int[] word = Model.wordWithSums(sums);
            for (int erased = 0; erased <= 6; erased++) {
                Model model = new Model();
                StrandArchive x = new StrandArchive();
                for (int s = erased; s < 16; s++) {
                    List<Integer> row = Model.strand(0, s, 0, word[s], 0, 0);
                    model.forge(Model.half(row, 0), Model.half(row, 1), row.size());
                    Bench.forge(x, row);
                }
                int due = model.decode(40);
                Bench.dueDecoding("sum " + j + " alone is 1", x, 40, due, 0, 0, erased, model.block(0, 1));
            }
        }
    }

    /** So many strands vanish, and so many lie in all columns, at places that wander. */
    private static void mend(int erased, int lies) {
        boolean fits = 2 * lies + erased <= 6;
        String name = erased + " erased, " + lies + " lie";
        for (int turn = 0; turn < 16; turn++) {
            StrandArchive x = Bench.written(40);
            for (int k = erased; k < 16; k++) {
                int s = (k * 5 + 3 * erased + lies + turn) % 16;
                if (k < erased + lies) {
                    Bench.lie(x, s, 15);
                } else {
                    x.read(s);
                }
            }
            Bench.dueDecoding(name, x, 40, fits ? 1 : 0, 0, 0, erased, fits ? lies : -1);
            if (fits) {
                Bench.dueOut(name, x, 0, 40);
            } else {
                Bench.dueOutZero(name, x, 0, 40);
            }
        }
    }

    /** Twelve strands lie, but no column has more than three that do. */
    private static void columnsAreMendedApart() {
        StrandArchive x = Bench.written(40);
        for (int s = 0; s < 16; s++) {
            if (s < 12) {
                Bench.lie(x, s, 1 << s % 4);
            } else {
                x.read(s);
            }
        }
        Bench.dueDecoding("three lies in each column", x, 40, 1, 0, 0, 0, 12);
        Bench.dueOut("three lies in each column", x, 0, 40);
    }

    private static void oneColumnLosesTheBlock() {
        for (int c = 0; c < 4; c++) {
            for (int lies = 3; lies <= 4; lies++) {
                boolean lost = lies == 4;
                StrandArchive x = Bench.written(80);
                for (int s = 0; s < 16; s++) {
                    if (s >= 4 && s < 4 + lies) {
                        Bench.lie(x, s, 1 << c);
                    } else {
                        x.read(s);
                    }
                }
                Bench.readStrands(x, 16, 32);
                String name = lies + " lies in column " + c;
                Bench.dueDecoding(name, x, 80, lost ? 0 : 1, 0, 0, 0, lost ? -1 : lies);
                Check.due(name + ": block(1, 1)", x.block(1, 1), 0);
                if (lost) {
                    Bench.dueOutZero(name, x, 0, 40);
                } else {
                    Bench.dueOut(name, x, 0, 40);
                }
                Bench.dueOut(name, x, 40, 80);
            }
        }
    }

    private static void bytesOfABlock() {
        for (int s = 8; s <= 11; s++) {
            StrandArchive x = Bench.written(40);
            Bench.readStrands(x, 0, s);
            Bench.lie(x, s, 15);
            Bench.readStrands(x, s + 1, 16);
            Bench.dueDecoding("strand " + s + " lies", x, 40, 1, 0, 0, 0, 1);
            Bench.dueOut("strand " + s + " lies", x, 0, 40);
        }
        StrandArchive x = Bench.written(40);
        Bench.readStrands(x, 6, 16);
        Bench.dueDecoding("parity instead of the first six", x, 40, 1, 0, 0, 6, 0);
        Bench.dueOut("parity instead of the first six", x, 0, 40);
        x.clear();
        Bench.readStrands(x, 7, 16);
        Bench.dueDecoding("nine strands, behind a decoding of ten", x, 40, 0, 0, 0, 7, -1);
        Bench.dueOutZero("nine strands, behind a decoding of ten", x, 0, 40);
    }
}
