import java.util.ArrayList;
import java.util.List;
import java.util.function.Consumer;

/** What can be seen after a run of calls: the run is done again on a new object whenever one has no calls left. */
final class Replay {
    private final int blocks;
    private final Consumer<Tree> run;
    private Tree tree;

    Replay(int blocks, Consumer<Tree> run) {
        this.blocks = blocks;
        this.run = run;
        begin();
    }

    private void begin() {
        tree = new Tree(blocks);
        run.accept(tree);
    }

    private Tree tree() {
        if (tree.callsLeft() == 0) {
            begin();
        }
        return tree;
    }

    int at(int block, int k, boolean committed) {
        return tree().at(block, k, committed);
    }

    int look(int what) {
        return tree().look(what);
    }

    int changed(int i) {
        return tree().changed(i);
    }

    int node(int inode, int what) {
        return tree().node(inode, what);
    }

    int find(int directory, int name) {
        return tree().find(directory, name);
    }

    long read(int inode, int offset) {
        return tree().read(inode, offset);
    }

    /** All looks, the changed blocks, and all bytes, now and as committed. */
    List<Integer> all() {
        List<Integer> seen = new ArrayList<>();
        for (int what = 0; what <= 6; what++) {
            seen.add(look(what));
        }
        for (int i = 0; i < seen.get(3); i++) {
            seen.add(changed(i));
        }
        for (int place = 0; place < 64 * seen.get(0); place++) {
            seen.add(at(place / 64, place % 64, false));
            seen.add(at(place / 64, place % 64, true));
        }
        return seen;
    }
}
