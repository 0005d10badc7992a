import java.lang.reflect.Field;
import java.util.ArrayList;
import java.util.Collections;
import java.util.List;

/**
 * What the heap holds, and in which order. Decoding makes the same of many reads and of every order, so no answer of the
 * face tells all of it: this test, and no other, looks inside the object, at the rows of the heap.
 */
final class HeapTest {
    public static void main(String[] args) {
        Check.sentence("6: A copy of a written strand comes into the heap", HeapTest::copies);
        Check.sentence("7: Likewise without the body's letter at (0 .. 32).", HeapTest::cutOnes);
        Check.sentence("8: Likewise with a letter put in ahead of the body's letter at (33: behind the body).",
                HeapTest::grownOnes);
        Check.sentence("9: A read of n letters (0 .. 60): letter i is two bits of a, from the lowest on, for i below 32, then "
                + "of b.", HeapTest::forgedOnes);
        Check.sentence("10: for k from how many reads there are, less 1, down to 1", HeapTest::fromTheLastDownToOne);
        Check.sentence("10: seed becomes (seed * 1103515245 + 12345) modulo 2 to the power 31", HeapTest::seedsWrap);
        Check.sentence("10: reads k and (seed / 65536) modulo (k + 1) change places.", HeapTest::placesChange);
        Check.sentence("10: False, changing nothing, when the seed is below 0.", HeapTest::refusedSeeds);
        Check.finish("HeapTest");
    }

    private static void copies() {
        for (int strand : new int[] {0, 15, 16, 63}) {
            StrandArchive x = Bench.used(160);
            x.read(strand);
            dueRow("read(" + strand + ")", x, strandOf(strand));
        }
    }

    private static void cutOnes() {
        for (int at = 0; at <= 32; at++) {
            StrandArchive x = Bench.used(160);
            x.readCut(17, at);
            dueRow("readCut(17, " + at + ")", x, Model.without(strandOf(17), at));
        }
    }

    private static void grownOnes() {
        for (int k = 0; k < 34 * 4; k++) {
            StrandArchive x = Bench.used(160);
            x.readGrown(18, k / 4, k % 4);
            dueRow("readGrown(18, " + k / 4 + ", " + k % 4 + ")", x, Model.with(strandOf(18), k / 4, k % 4));
        }
    }

    private static void forgedOnes() {
        List<Integer> letters = new ArrayList<>(strandOf(19));
        letters.addAll(strandOf(20).subList(0, 15));
        for (int n = 0; n <= 60; n++) {
            StrandArchive x = Bench.used(160);
            x.forge(Model.half(letters, 0), Model.half(letters, 1), n);
            dueRow("forge of " + n, x, letters.subList(0, n));
        }
    }

    private static List<Integer> strandOf(int strand) {
        return Model.withTail(Bench.writtenBody(strand));
    }

    private static void fromTheLastDownToOne() {
        dueOrder(1);
        dueOrder(1, 0);
        // Of seed 1 come 16838, 5758 and 10113 behind the division by 65536: 16838 is 0 modulo 2.
        dueOrder(1, 1, 0);
        // 16838 is 2 modulo 3, 5758 is 0 modulo 2.
        dueOrder(1, 1, 0, 2);
        // 16838 is 2 modulo 4, 5758 is 1 modulo 3, 10113 is 1 modulo 2.
        dueOrder(1, 0, 3, 1, 2);
    }

    private static void seedsWrap() {
        // 0 becomes 12345, and 12345 / 65536 is 0.
        dueOrder(0, 1, 0);
        // 2147483647 becomes 1043980748, and 15929 is 1 modulo 2.
        dueOrder(2147483647, 0, 1);
        for (int seed = 0; seed < 200; seed++) {
            dueOrderAsTold(seed, 2);
            dueOrderAsTold(2147483647 - seed, 2);
        }
    }

    private static void placesChange() {
        for (int many = 0; many <= 90; many++) {
            dueOrderAsTold(0, many);
            dueOrderAsTold(7, many);
            dueOrderAsTold(123456789, many);
            dueOrderAsTold(2147483647, many);
        }
    }

    private static void refusedSeeds() {
        for (int seed : new int[] {-1, -65536, Bench.LOW, Bench.LOW + 1}) {
            StrandArchive x = marked(90);
            Check.due("shuffle(" + seed + ")", x.shuffle(seed), false);
            dueMarks("shuffle(" + seed + ") of 90", x, marks(90));
        }
        StrandArchive x = marked(90);
        Check.due("shuffle(0)", x.shuffle(0), true);
        Check.due("shuffle(0) leaves all 90 where they are", marksOf(x).equals(marks(90)), false);
    }

    private static void dueOrder(int seed, Integer... due) {
        StrandArchive x = marked(due.length);
        Check.due("shuffle(" + seed + ")", x.shuffle(seed), true);
        Check.due("heap()", x.heap(), due.length);
        dueMarks("shuffle(" + seed + ") of " + due.length, x, List.of(due));
    }

    /** The document's words once more, with numbers that are wide enough not to wrap by themselves. */
    private static void dueOrderAsTold(int seed, int many) {
        List<Integer> due = marks(many);
        long state = seed;
        for (int k = many - 1; k >= 1; k--) {
            state = (state * 1103515245L + 12345L) % (1L << 31);
            Collections.swap(due, k, (int) (state / 65536 % (k + 1)));
        }
        dueOrder(seed, due.toArray(new Integer[0]));
    }

    /** The heap's reads are told apart by their first four letters. */
    private static StrandArchive marked(int many) {
        StrandArchive x = new StrandArchive();
        for (int k = 0; k < many; k++) {
            x.forge(k, 0L, 4);
        }
        return x;
    }

    private static List<Integer> marks(int many) {
        List<Integer> marks = new ArrayList<>();
        for (int k = 0; k < many; k++) {
            marks.add(k);
        }
        return marks;
    }

    private static List<Integer> marksOf(StrandArchive x) {
        List<Integer> marks = new ArrayList<>();
        for (List<Integer> row : rowsOf(x)) {
            marks.add((int) Model.half(row, 0));
        }
        return marks;
    }

    private static void dueMarks(String what, StrandArchive x, List<Integer> due) {
        List<Integer> got = marksOf(x);
        Check.due(what + " made " + got + ", due is " + due + ": the same", got.equals(due), true);
    }

    private static void dueRow(String what, StrandArchive x, List<Integer> due) {
        List<List<Integer>> got = rowsOf(x);
        Check.due(what + " made " + got + ", due is " + due + ": the same", got.equals(List.of(due)), true);
    }

    private static List<List<Integer>> rowsOf(StrandArchive x) {
        List<List<Integer>> rows = new ArrayList<>();
        try {
            Object[] reads = (Object[]) valueOf(x, "reads");
            for (int k = 0; k < x.heap(); k++) {
                long low = (long) valueOf(reads[k], "low");
                long high = (long) valueOf(reads[k], "high");
                rows.add(Model.forgedRow(low, high, (int) valueOf(reads[k], "length")));
            }
        } catch (ReflectiveOperationException e) {
            throw new IllegalStateException("the heap is held in another way now: this test has to follow", e);
        }
        return rows;
    }

    private static Object valueOf(Object holder, String name) throws ReflectiveOperationException {
        Field field = holder.getClass().getDeclaredField(name);
        field.setAccessible(true);
        return field.get(holder);
    }
}
