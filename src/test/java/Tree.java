/** A TreeFiles that lets a test make no more calls than the document promises answers for. */
final class Tree {
    private static final int MOST_CALLS = 512;

    private final TreeFiles files;
    private int calls = 0;

    Tree(int blocks) {
        files = new TreeFiles(blocks);
    }

    int callsLeft() {
        return MOST_CALLS - calls;
    }

    private TreeFiles called() {
        if (calls == MOST_CALLS) {
            throw new AssertionError("this test makes more than 512 calls of one object");
        }
        calls++;
        return files;
    }

    int feed(int n, long v) {
        return called().feed(n, v);
    }

    int make(int directory, int name, boolean asDirectory) {
        return called().make(directory, name, asDirectory);
    }

    int find(int directory, int name) {
        return called().find(directory, name);
    }

    int write(int inode, int offset) {
        return called().write(inode, offset);
    }

    int cut(int inode, int size) {
        return called().cut(inode, size);
    }

    long read(int inode, int offset) {
        return called().read(inode, offset);
    }

    int move(int directory, int name, int toDirectory, int toName) {
        return called().move(directory, name, toDirectory, toName);
    }

    int remove(int directory, int name) {
        return called().remove(directory, name);
    }

    int commit() {
        return called().commit();
    }

    int drop() {
        return called().drop();
    }

    int node(int inode, int what) {
        return called().node(inode, what);
    }

    int at(int block, int k, boolean committed) {
        return called().at(block, k, committed);
    }

    int changed(int i) {
        return called().changed(i);
    }

    int look(int what) {
        return called().look(what);
    }
}
