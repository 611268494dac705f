import java.util.List;
import java.util.function.Consumer;

/** Counts and prints the calls whose answer is not the one that is due. */
final class Check {
    interface Call {
        long answer();
    }

    private int wrong = 0;
    private String sentence = "";

    /** The document's words that what follows is a test of. */
    void sentence(String words) {
        sentence = "\"" + words + "\": ";
    }

    void due(String call, long got, long want) {
        if (got != want) {
            tell(call + " answered " + got + ", due is " + want);
        }
    }

    void dueThrow(String call, Class<? extends RuntimeException> want, Call made) {
        try {
            tell(call + " answered " + made.answer() + ", due is " + want.getSimpleName());
        } catch (RuntimeException e) {
            if (e.getClass() != want) {
                tell(call + " threw " + e + ", due is " + want.getSimpleName());
            }
        }
    }

    /** The bytes of a block, now, from byte k on. */
    void dueBytes(String told, Tree x, int block, int k, int... want) {
        for (int i = 0; i < want.length; i++) {
            due(told + ": byte " + (k + i) + " of block " + block, x.at(block, k + i, false), want[i]);
        }
    }

    /** The bytes of an inode: those told, and 0s behind them. */
    void dueInode(String told, Tree x, int inode, int... want) {
        for (int i = 0; i < 32; i++) {
            int due = i < want.length ? want[i] : 0;
            int got = x.at(25 + inode / 2, 32 * (inode % 2) + i, false);
            due(told + ": byte " + i + " of inode " + inode, got, due);
        }
    }

    /** Calls that change nothing of what can be seen after the calls before them. */
    void changesNothing(String told, int blocks, Consumer<Tree> before, Consumer<Tree> calls) {
        List<Integer> without = new Replay(blocks, before).all();
        List<Integer> with = new Replay(blocks, before.andThen(calls)).all();
        if (!without.equals(with)) {
            tell(told + " changed something");
        }
    }

    void tell(String fault) {
        wrong++;
        System.out.println(sentence + fault);
    }

    int wrong() {
        return wrong;
    }

    /** Ends the test, with exit code 1 if an answer was wrong. */
    void end() {
        System.out.println(wrong == 0 ? "all answers are as due" : wrong + " answers are not as due");
        if (wrong != 0) {
            System.exit(1);
        }
    }

    /** Feeds so many bytes, byte i being (first + i) mod 256. */
    static void feed(Tree x, int count, int first) {
        for (int fed = 0; fed < count; fed += 8) {
            int n = Math.min(8, count - fed);
            long v = 0;
            for (int k = n - 1; k >= 0; k--) {
                v = v << 8 | first + fed + k & 255;
            }
            x.feed(n, v);
        }
    }

    /** Feeds so many bytes of 255. */
    static void feedFull(Tree x, int count) {
        for (int fed = 0; fed < count; fed += 8) {
            x.feed(Math.min(8, count - fed), -1);
        }
    }

    /** A file of that size in the root; it grows by the 1024 bytes that a call allows. */
    static int file(Tree x, int name, int size) {
        int inode = x.make(0, name, false);
        for (int grown = 0; grown < size; grown += 1024) {
            x.cut(inode, Math.min(size, grown + 1024));
        }
        return inode;
    }
}
