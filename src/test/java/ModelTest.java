import java.util.ArrayList;
import java.util.List;
import java.util.NoSuchElementException;
import java.util.Random;
import java.util.TreeMap;
import java.util.function.Consumer;

/**
 * Long runs of calls on TreeFiles and on the Model, with the same answers due; the seeds are fixed.
 * Between them the run so far is done again on other objects, so that all of it can be looked at.
 */
public final class ModelTest {
    private static final int RUNS = 420;
    /** The most that a step can use: a full tape, and its write. */
    private static final int STEP_CALLS = 65;
    private static final int[] SIZES = {96, 97, 110, 160, 600, 768, 0};
    /** Of a hundred steps those that make, find, write, cut, move, remove, commit, drop and read: kinds of runs. */
    private static final int[][] SHARES = {
        {20, 4, 26, 20, 12, 10, 3, 2, 3}, {70, 2, 5, 7, 7, 3, 2, 1, 3}, {10, 2, 12, 60, 4, 3, 2, 1, 6},
    };

    private static final Check CHECK = new Check();
    /** How often each operation gave each kind of answer: the runs are worth nothing if they never come there. */
    private static final TreeMap<String, Integer> SEEN = new TreeMap<>();

    private final Random random;
    private final int blocks;
    private final Tree x;
    private final Model model;
    /** The calls so far that can change something. */
    private final List<Consumer<Tree>> done = new ArrayList<>();
    private final int inodes;
    private final int names;
    private final int[] shares;
    private final String run;

    private ModelTest(int seed) {
        random = new Random(seed);
        blocks = SIZES[seed % SIZES.length];
        x = new Tree(blocks);
        model = new Model(blocks);
        inodes = new int[] {4, 8, 20, 64}[random.nextInt(4)];
        names = new int[] {3, 6, 40}[random.nextInt(3)];
        shares = SHARES[random.nextInt(SHARES.length)];
        run = "run " + seed + ": ";
    }

    public static void main(String[] args) {
        for (int seed = 0; seed < RUNS && CHECK.wrong() == 0; seed++) {
            new ModelTest(seed).go();
        }
        String[] due = {
            "make -1", "make -2", "make -3", "make -4", "make -5", "make 0", "find -1", "find -5", "find 0",
            "write -1", "write -4", "write -5", "write -8", "write 0", "cut -1", "cut -4", "cut -5", "cut -8", "cut 0",
            "move -1", "move -4", "move -5", "move -6", "move -7", "move 0", "remove -1", "remove -5", "remove -6",
            "remove 0", "ninth extent", "commit first",
        };
        for (String kind : due) {
            if (!SEEN.containsKey(kind)) {
                CHECK.tell("the runs never came to: " + kind);
            }
        }
        CHECK.end();
    }

    private void go() {
        for (int step = 1; x.callsLeft() >= STEP_CALLS && CHECK.wrong() == 0; step++) {
            String at = run + "step " + step + " ";
            step(at);
            compareLook(at);
            if (step % 16 == 0) {
                compare(at, 5);
            }
        }
        compare(run + "at its end ", model.limit <= 97 ? model.limit : 20);
    }

    private int inode() {
        return random.nextInt(inodes);
    }

    private int directory() {
        int inode = inode();
        return random.nextInt(8) == 0 || model.node(inode).kind == 2 ? inode : 0;
    }

    private int file() {
        int inode = inode();
        for (int tries = 0; tries < 5 && model.node(inode).kind != 1; tries++) {
            inode = inode();
        }
        return inode;
    }

    private int name() {
        int name = 1 + random.nextInt(names);
        return random.nextBoolean() ? name : 256 * name;
    }

    private void due(String told, String kind, int got, int want) {
        String seen = kind + " " + Math.min(want, 0);
        SEEN.merge(seen, 1, Integer::sum);
        CHECK.due(told, got, want);
    }

    private int kindOfStep() {
        int left = random.nextInt(100);
        int kind = 0;
        while (left >= shares[kind]) {
            left -= shares[kind];
            kind++;
        }
        return kind;
    }

    private void step(String at) {
        int first = model.commitsFirst;
        switch (kindOfStep()) {
            case 0 -> makeOne(at);
            case 1 -> findOne(at);
            case 2 -> writeOne(at);
            case 3 -> cutOne(at);
            case 4 -> moveOne(at);
            case 5 -> removeOne(at);
            case 6 -> commitAll(at);
            case 7 -> dropAll(at);
            default -> readOne(at);
        }
        if (model.commitsFirst > first) {
            SEEN.merge("commit first", 1, Integer::sum);
        }
    }

    private void findOne(String at) {
        int d = directory();
        int n = name();
        due(at + "find(" + d + ", " + n + ")", "find", x.find(d, n), model.find(d, n));
    }

    private void removeOne(String at) {
        int d = directory();
        int n = name();
        done.add(t -> t.remove(d, n));
        due(at + "remove(" + d + ", " + n + ")", "remove", x.remove(d, n), model.remove(d, n));
    }

    private void commitAll(String at) {
        done.add(Tree::commit);
        CHECK.due(at + "commit()", x.commit(), model.commit());
    }

    private void dropAll(String at) {
        done.add(Tree::drop);
        CHECK.due(at + "drop()", x.drop(), model.drop());
    }

    private void makeOne(String at) {
        int d = directory();
        int n = name();
        boolean as = random.nextInt(3) == 0;
        done.add(t -> t.make(d, n, as));
        due(at + "make(" + d + ", " + n + ", " + as + ")", "make", x.make(d, n, as), model.make(d, n, as));
    }

    private void writeOne(String at) {
        int choice = random.nextInt(20);
        int feeds = choice == 0 ? 64 : choice < 3 ? random.nextInt(65) : random.nextInt(4);
        for (int i = 0; i < feeds && model.tape.size() <= 504; i++) {
            int n = feeds == 64 ? 8 : 1 + random.nextInt(8);
            long v = random.nextLong();
            for (int k = 0; k < n; k++) {
                model.tape.add((int) (v >> 8 * k) & 255);
            }
            done.add(t -> t.feed(n, v));
            CHECK.due(at + "feed(" + n + ", " + v + ")", x.feed(n, v), model.tape.size());
        }
        int f = file();
        int size = model.node(f).bytes.size();
        int offset = random.nextInt(3) == 0 ? size : random.nextInt(size + 2) - random.nextInt(2);
        done.add(t -> t.write(f, offset));
        due(at + "write(" + f + ", " + offset + ")", "write", x.write(f, offset), model.write(f, offset));
    }

    private void cutOne(String at) {
        int f = file();
        int size = model.node(f).bytes.size();
        int to = random.nextInt(2) == 0 ? size / 64 * 64 + 64
            : random.nextInt(3) == 0 ? random.nextInt(size + 1) - random.nextInt(2)
            : size + random.nextInt(1028);
        boolean blocksThere = model.freeBlocks() >= (to - size) / 64 + 1;
        int want = model.cut(f, to);
        done.add(t -> t.cut(f, to));
        due(at + "cut(" + f + ", " + to + ")", "cut", x.cut(f, to), want);
        if (want == -4 && blocksThere) {
            SEEN.merge("ninth extent", 1, Integer::sum);
        }
    }

    private void moveOne(String at) {
        int d = directory();
        int n = name();
        int e = directory();
        int m = name();
        String told = at + "move(" + d + ", " + n + ", " + e + ", " + m + ")";
        done.add(t -> t.move(d, n, e, m));
        due(told, "move", x.move(d, n, e, m), model.move(d, n, e, m));
    }

    private void readOne(String at) {
        int f = inode();
        int offset = random.nextInt(model.node(f).bytes.size() + 2) - 1;
        Long want = model.read(f, offset);
        String told = at + "read(" + f + ", " + offset + ")";
        if (want == null) {
            CHECK.dueThrow(told, NoSuchElementException.class, () -> x.read(f, offset));
        } else {
            CHECK.due(told, x.read(f, offset), want);
        }
    }

    private int[] looks() {
        return new int[] {
            model.limit, model.freeBlocks(), model.ofKind(0), model.changed().size(), model.commitsFirst,
            model.tape.size(), model.ofKind(2),
        };
    }

    /** Looks between the calls of the run itself must not disturb it; one is enough, as they use up its calls. */
    private void compareLook(String at) {
        int what = random.nextInt(7);
        if (random.nextBoolean() && x.callsLeft() > 0) {
            CHECK.due(at + "look(" + what + ")", x.look(what), looks()[what]);
        }
    }

    private void compare(String at, int someBlocks) {
        Replay seen = new Replay(blocks, t -> done.forEach(call -> call.accept(t)));
        int[] due = looks();
        for (int what = 0; what < due.length; what++) {
            CHECK.due(at + "look(" + what + ")", seen.look(what), due[what]);
        }
        List<Integer> changed = model.changed();
        if (CHECK.wrong() == 0) {
            for (int i = 0; i < changed.size(); i++) {
                CHECK.due(at + "changed(" + i + ")", seen.changed(i), changed.get(i));
            }
        }
        CHECK.dueThrow(at + "changed behind the last", NoSuchElementException.class,
            () -> seen.changed(changed.size()));
        compareNodes(at, seen);
        compareBytes(at, seen, someBlocks);
    }

    private void compareNodes(String at, Replay seen) {
        for (int i = 0; i < 64; i++) {
            Model.Node n = model.node(i);
            List<int[]> extents = n.extents();
            CHECK.due(at + "kind of " + i, seen.node(i, 0), n.kind);
            CHECK.due(at + "size of " + i, seen.node(i, 1), n.bytes.size());
            CHECK.due(at + "extents of " + i, seen.node(i, 2), extents.size());
            for (int e = 0; e < extents.size() && CHECK.wrong() == 0; e++) {
                CHECK.due(at + "extent " + e + " of " + i, seen.node(i, 3 + 2 * e), extents.get(e)[0]);
                CHECK.due(at + "its length", seen.node(i, 4 + 2 * e), extents.get(e)[1]);
            }
        }
    }

    /** All blocks if so many are asked for; otherwise changed ones and any others, by turns. */
    private void compareBytes(String at, Replay seen, int someBlocks) {
        int[][] now = model.now();
        int[][] committed = model.committed();
        List<Integer> changed = model.changed();
        for (int n = 0; n < someBlocks; n++) {
            int b = someBlocks == model.limit ? n
                : n % 2 == 0 && !changed.isEmpty() ? changed.get(random.nextInt(changed.size()))
                : 25 + random.nextInt(model.limit - 25);
            for (int k = 0; k < 64; k++) {
                CHECK.due(at + "at(" + b + ", " + k + ", false)", seen.at(b, k, false), now[b][k]);
                CHECK.due(at + "at(" + b + ", " + k + ", true)", seen.at(b, k, true), committed[b][k]);
            }
        }
    }
}
