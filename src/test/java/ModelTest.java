import java.util.List;
import java.util.NoSuchElementException;
import java.util.Random;
import java.util.TreeMap;

/**
 * Long runs of calls on TreeFiles and on the Model, with the same answers due; the seeds are fixed.
 * The looks at all bytes between them go beyond the 512 calls that the document promises: nothing here counts calls.
 */
public final class ModelTest {
    private static final int CALLS = 512;
    private static final int[] SIZES = {96, 97, 110, 160, 600, 768, 0};

    private static final Check CHECK = new Check();
    /** How often each operation gave each kind of answer: the runs are worth nothing if they never come there. */
    private static final TreeMap<String, Integer> SEEN = new TreeMap<>();

    private final Random random;
    private final TreeFiles x;
    private final Model model;
    private final int inodes;
    private final int names;
    private final String run;

    private ModelTest(int seed) {
        random = new Random(seed);
        int blocks = SIZES[seed % SIZES.length];
        x = new TreeFiles(blocks);
        model = new Model(blocks);
        inodes = new int[] {4, 8, 20, 64}[random.nextInt(4)];
        names = new int[] {3, 6, 40}[random.nextInt(3)];
        run = "run " + seed + ": ";
    }

    public static void main(String[] args) {
        for (int seed = 0; seed < 140 && CHECK.wrong() == 0; seed++) {
            new ModelTest(seed).go();
        }
        String[] due = {
            "make -1", "make -2", "make -3", "make -4", "make -5", "make 0", "find -1", "find -5", "find 0",
            "write -1", "write -4", "write -5", "write -8", "write 0", "cut -1", "cut -4", "cut -5", "cut -8", "cut 0",
            "move -1", "move -4", "move -5", "move -6", "move -7", "move 0", "remove -1", "remove -5", "remove -6",
            "remove 0", "ninth extent", "commit first",
        };
        for (String kind : due) {
            if (!SEEN.containsKey(kind)) {
                CHECK.tell("the runs never came to: " + kind);
            }
        }
        CHECK.end();
    }

    private void go() {
        for (int call = 0; call < CALLS && CHECK.wrong() == 0; call++) {
            step(run + "call " + call + " ");
            compareLooks(run + "after call " + call + " ");
            if (call % 32 == 31) {
                compareBytes(run + "after call " + call + " ");
                compareNodes(run + "after call " + call + " ");
            }
        }
    }

    private int inode() {
        return random.nextInt(inodes);
    }

    private int directory() {
        int inode = inode();
        return random.nextInt(8) == 0 || model.node(inode).kind == 2 ? inode : 0;
    }

    private int file() {
        int inode = inode();
        for (int tries = 0; tries < 5 && model.node(inode).kind != 1; tries++) {
            inode = inode();
        }
        return inode;
    }

    private int name() {
        int name = 1 + random.nextInt(names);
        return random.nextBoolean() ? name : 256 * name;
    }

    private void due(String told, String kind, int got, int want) {
        String seen = kind + " " + Math.min(want, 0);
        SEEN.merge(seen, 1, Integer::sum);
        CHECK.due(told, got, want);
    }

    private void step(String at) {
        int first = model.commitsFirst;
        int choice = random.nextInt(100);
        if (choice < 20) {
            makeOne(at);
        } else if (choice < 24) {
            int d = directory();
            int n = name();
            due(at + "find(" + d + ", " + n + ")", "find", x.find(d, n), model.find(d, n));
        } else if (choice < 50) {
            writeOne(at);
        } else if (choice < 70) {
            cutOne(at);
        } else if (choice < 82) {
            int d = directory();
            int n = name();
            int e = directory();
            int m = name();
            String told = at + "move(" + d + ", " + n + ", " + e + ", " + m + ")";
            due(told, "move", x.move(d, n, e, m), model.move(d, n, e, m));
        } else if (choice < 92) {
            int d = directory();
            int n = name();
            due(at + "remove(" + d + ", " + n + ")", "remove", x.remove(d, n), model.remove(d, n));
        } else if (choice < 95) {
            CHECK.due(at + "commit()", x.commit(), model.commit());
        } else if (choice < 97) {
            CHECK.due(at + "drop()", x.drop(), model.drop());
        } else {
            readOne(at);
        }
        if (model.commitsFirst > first) {
            SEEN.merge("commit first", 1, Integer::sum);
        }
    }

    private void makeOne(String at) {
        int d = directory();
        int n = name();
        boolean as = random.nextInt(3) == 0;
        due(at + "make(" + d + ", " + n + ", " + as + ")", "make", x.make(d, n, as), model.make(d, n, as));
    }

    private void writeOne(String at) {
        int feeds = random.nextInt(4) == 0 ? random.nextInt(65) : random.nextInt(4);
        for (int i = 0; i < feeds && model.tape.size() <= 504; i++) {
            int n = 1 + random.nextInt(8);
            long v = random.nextLong();
            for (int k = 0; k < n; k++) {
                model.tape.add((int) (v >> 8 * k) & 255);
            }
            CHECK.due(at + "feed(" + n + ", " + v + ")", x.feed(n, v), model.tape.size());
        }
        int f = file();
        int size = model.node(f).bytes.size();
        int offset = random.nextInt(3) == 0 ? size : random.nextInt(size + 2) - random.nextInt(2);
        due(at + "write(" + f + ", " + offset + ")", "write", x.write(f, offset), model.write(f, offset));
    }

    private void cutOne(String at) {
        int f = file();
        int size = model.node(f).bytes.size();
        int to = random.nextInt(4) == 0 ? size / 64 * 64 + 64
            : random.nextInt(3) == 0 ? random.nextInt(size + 1) - random.nextInt(2)
            : size + random.nextInt(1028);
        boolean blocksThere = model.freeBlocks() >= (to - size) / 64 + 1;
        int want = model.cut(f, to);
        due(at + "cut(" + f + ", " + to + ")", "cut", x.cut(f, to), want);
        if (want == -4 && blocksThere) {
            SEEN.merge("ninth extent", 1, Integer::sum);
        }
    }

    private void readOne(String at) {
        int f = inode();
        int offset = random.nextInt(model.node(f).bytes.size() + 2) - 1;
        Long want = model.read(f, offset);
        String told = at + "read(" + f + ", " + offset + ")";
        if (want == null) {
            CHECK.dueThrow(told, NoSuchElementException.class, () -> x.read(f, offset));
        } else {
            CHECK.due(told, x.read(f, offset), want);
        }
    }

    private void compareLooks(String at) {
        List<Integer> changed = model.changed();
        int[] due = {
            model.limit, model.freeBlocks(), model.ofKind(0), changed.size(), model.commitsFirst, model.tape.size(),
            model.ofKind(2),
        };
        for (int what = 0; what < due.length; what++) {
            CHECK.due(at + "look(" + what + ")", x.look(what), due[what]);
        }
        if (x.look(3) == changed.size()) {
            for (int i = 0; i < changed.size(); i++) {
                CHECK.due(at + "changed(" + i + ")", x.changed(i), changed.get(i));
            }
        }
        CHECK.dueThrow(at + "changed behind the last", NoSuchElementException.class, () -> x.changed(changed.size()));
    }

    private void compareBytes(String at) {
        int[][] now = model.now();
        int[][] committed = model.committed();
        for (int b = 0; b < model.limit; b++) {
            for (int k = 0; k < 64; k++) {
                CHECK.due(at + "at(" + b + ", " + k + ", false)", x.at(b, k, false), now[b][k]);
                CHECK.due(at + "at(" + b + ", " + k + ", true)", x.at(b, k, true), committed[b][k]);
            }
        }
    }

    private void compareNodes(String at) {
        for (int i = 0; i < 64; i++) {
            Model.Node n = model.node(i);
            List<int[]> extents = n.extents();
            CHECK.due(at + "kind of " + i, x.node(i, 0), n.kind);
            CHECK.due(at + "size of " + i, x.node(i, 1), n.bytes.size());
            CHECK.due(at + "extents of " + i, x.node(i, 2), extents.size());
            for (int e = 0; e < Math.min(extents.size(), x.node(i, 2)); e++) {
                CHECK.due(at + "extent " + e + " of " + i, x.node(i, 3 + 2 * e), extents.get(e)[0]);
                CHECK.due(at + "its length", x.node(i, 4 + 2 * e), extents.get(e)[1]);
            }
        }
    }
}
