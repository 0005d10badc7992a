import java.util.ArrayList;
import java.util.List;
import java.util.NoSuchElementException;
import java.util.Random;
import java.util.function.IntSupplier;

/** Long mixed runs on the class and on the model side by side; the seed is fixed, so each run is always the same. */
final class ModelTest {
    private static final int RUNS = 200;
    private static final int MOST_CALLS = 512;
    private static final int THROWN = -1000;

    private final Random random;
    private final StrandArchive archive = new StrandArchive();
    private final Model model = new Model();
    private final String name;
    private int calls = 0;
    private int lastSize = 40;

    private ModelTest(int run) {
        name = "run " + run;
        random = new Random(run);
    }

    public static void main(String[] args) {
        for (int run = 0; run < RUNS && Check.wrongs() < 20; run++) {
            ModelTest test = new ModelTest(run);
            if (run % 4 == 0) {
                test.anyCalls();
            } else {
                test.archiveAndDecode(run % 4);
            }
        }
        Check.finish("ModelTest");
    }

    private void compare(String call, IntSupplier ours, IntSupplier theirs) {
        calls++;
        Check.due(name + ", call " + calls + ": " + call, answer(ours), answer(theirs));
    }

    private static int answer(IntSupplier call) {
        try {
            return call.getAsInt();
        } catch (NoSuchElementException e) {
            return THROWN;
        }
    }

    private static int number(boolean answer) {
        return answer ? 1 : 0;
    }

    private int near(int low, int high) {
        int wild = random.nextInt(40);
        if (wild == 0) {
            return random.nextInt();
        }
        if (wild < 3) {
            return wild == 1 ? low - 1 : high + 1;
        }
        return low + random.nextInt(high - low + 1);
    }

    private void anyCalls() {
        while (calls < MOST_CALLS - 1) {
            anyCall();
        }
    }

    private void anyCall() {
        switch (random.nextInt(24)) {
            case 0 -> write(near(1, 160));
            case 1 -> decode(near(1, 160));
            case 2 -> shuffle(random.nextInt());
            case 3 -> product(random.nextInt(), random.nextInt());
            case 4, 5 -> letter(near(0, 63), near(0, 44));
            case 6 -> count(near(0, 2));
            case 7, 8 -> out(near(0, 159));
            case 9, 10 -> block(near(0, 3), near(0, 1));
            case 11 -> forge(random.nextLong(), random.nextLong(), near(0, 60));
            case 12 -> lie(random.nextInt(5), random.nextInt(17));
            case 13, 14 -> readCut(near(0, 63), near(0, 32));
            case 15, 16 -> readGrown(near(0, 63), near(0, 33), near(0, 3));
            case 17, 18, 19 -> load(near(0, 159), random.nextInt());
            case 20 -> clearSometimes();
            default -> read(near(0, 63));
        }
        compare("heap()", archive::heap, model::heap);
    }

    private void archiveAndDecode(int blocks) {
        for (int i = 0; i < 120; i++) {
            load(random.nextInt(160), random.nextInt());
        }
        write(1 + random.nextInt(40 * blocks));
        while (calls < MOST_CALLS - 150) {
            int vanishing = random.nextInt(6);
            int lying = random.nextInt(5);
            for (int strand = 0; strand < (lastSize + 39) / 40 * 16; strand++) {
                readSomehow(strand, vanishing, lying);
            }
            shuffle(random.nextInt(Integer.MAX_VALUE));
            decode(random.nextInt(8) == 0 ? 1 + random.nextInt(160) : lastSize);
            compareDecoding();
            clear();
        }
    }

    private void readSomehow(int strand, int vanishing, int lying) {
        int fate = random.nextInt(20);
        if (fate < vanishing) {
            return;
        }
        if (fate < vanishing + lying) {
            lie(strand / 16, strand % 16);
        } else if (fate < 13) {
            read(strand);
        } else if (fate < 16) {
            readCut(strand, random.nextInt(33));
        } else {
            readGrown(strand, random.nextInt(34), random.nextInt(4));
        }
        if (random.nextInt(60) == 0) {
            forge(random.nextLong(), random.nextLong(), 44 + random.nextInt(3));
        }
    }

    private void compareDecoding() {
        for (int what = 0; what < 3; what++) {
            count(what);
        }
        for (int b = 0; b < 4; b++) {
            block(b, 0);
            block(b, 1);
        }
        for (int k = 0; k < 12; k++) {
            out(random.nextInt(lastSize));
        }
    }

    /** A strand that looks right but says other bytes in some columns, sometimes cut, grown or bent. */
    private void lie(int b, int s) {
        int[] six = new int[] {b, s, 0, 0, 0, 0};
        int columns = 1 + random.nextInt(15);
        for (int c = 0; c < 4; c++) {
            boolean changed = (columns >> c & 1) == 1;
            six[2 + c] = changed ? random.nextInt(256) : said(b, s, c);
        }
        List<Integer> row = Model.strand(six);
        int bend = random.nextInt(12);
        if (bend == 0) {
            row = Model.without(row, random.nextInt(45));
        } else if (bend == 1) {
            row = Model.with(row, random.nextInt(46), random.nextInt(4));
        } else if (bend == 2) {
            row = new ArrayList<>(row);
            row.set(random.nextInt(45), random.nextInt(4));
        } else if (bend == 3) {
            List<Integer> body = new ArrayList<>(row.subList(0, 33));
            body.set(random.nextInt(33), random.nextInt(4));
            row = Model.withTail(body);
        }
        forge(Model.half(row, 0), Model.half(row, 1), row.size());
    }

    private int said(int b, int s, int c) {
        int i = 16 * b + s;
        if (model.letter(i, 0) < 0) {
            return 0;
        }
        List<Integer> body = new ArrayList<>();
        for (int k = 0; k < 33; k++) {
            body.add(model.letter(i, k));
        }
        return Model.bytesOf(body)[2 + c];
    }

    private void load(int i, int b) {
        compare("load(" + i + ", " + b + ")", () -> number(archive.load(i, b)), () -> number(model.load(i, b)));
    }

    private void write(int n) {
        compare("write(" + n + ")", () -> archive.write(n), () -> model.write(n));
        lastSize = n >= 1 && n <= 160 ? n : lastSize;
    }

    private void letter(int strand, int i) {
        compare("letter(" + strand + ", " + i + ")", () -> archive.letter(strand, i), () -> model.letter(strand, i));
    }

    private void clearSometimes() {
        if (random.nextInt(4) == 0) {
            clear();
        }
    }

    private void clear() {
        calls++;
        archive.clear();
        model.clear();
    }

    private void read(int strand) {
        compare("read(" + strand + ")", () -> number(archive.read(strand)), () -> number(model.read(strand)));
    }

    private void readCut(int strand, int at) {
        compare("readCut(" + strand + ", " + at + ")",
                () -> number(archive.readCut(strand, at)), () -> number(model.readCut(strand, at)));
    }

    private void readGrown(int strand, int at, int letter) {
        compare("readGrown(" + strand + ", " + at + ", " + letter + ")",
                () -> number(archive.readGrown(strand, at, letter)), () -> number(model.readGrown(strand, at, letter)));
    }

    private void forge(long a, long b, int n) {
        compare("forge(" + a + ", " + b + ", " + n + ")",
                () -> number(archive.forge(a, b, n)), () -> number(model.forge(a, b, n)));
    }

    private void shuffle(int seed) {
        compare("shuffle(" + seed + ")", () -> number(archive.shuffle(seed)), () -> number(model.shuffle(seed)));
    }

    private void decode(int n) {
        compare("decode(" + n + ")", () -> archive.decode(n), () -> model.decode(n));
    }

    private void out(int i) {
        compare("out(" + i + ")", () -> archive.out(i), () -> model.out(i));
    }

    private void count(int what) {
        compare("count(" + what + ")", () -> archive.count(what), () -> model.count(what));
    }

    private void block(int b, int what) {
        compare("block(" + b + ", " + what + ")", () -> archive.block(b, what), () -> model.block(b, what));
    }

    private void product(int a, int b) {
        compare("product(" + a + ", " + b + ")", () -> archive.product(a, b), () -> model.product(a, b));
    }
}
