import java.util.NoSuchElementException;

/** Promises 10, 11 and 14: commit, drop, changed; and the commits that operations make first. */
public final class CommitTest {
    private static final Check CHECK = new Check();

    public static void main(String[] args) {
        promise10Commits();
        promise11Drops();
        freeBlocksHaveCommittedBytes();
        takenBlocksHaveZeros();
        promise14Rises();
        promise14Map();
        promise14Wrong();
        backToCommittedIsNotChanged();
        operationCommitsFirst();
        operationCommitsWhatItGivesBack();
        failedOperationDoesNotCommitFirst();
        CHECK.end();
    }

    private static void promise10Commits() {
        Tree x = new Tree(96);
        CHECK.due("commit nothing", x.commit(), 0);
        x.make(0, 1, false);
        Check.feed(x, 1, 77);
        x.write(1, 0);
        CHECK.due("now", x.at(60, 0, false), 77);
        CHECK.due("committed", x.at(60, 0, true), 0);
        CHECK.due("commit the inode, the map, a directory's and a file's block", x.commit(), 4);
        CHECK.due("committed then", x.at(60, 0, true), 77);
        CHECK.due("commit again", x.commit(), 0);
        CHECK.due("drop after commit", x.drop(), 0);
        CHECK.due("it stays", x.read(1, 0), 77);
        CHECK.due("no operation committed first", x.look(4), 0);
    }

    private static void promise11Drops() {
        Tree x = new Tree(96);
        x.make(0, 1, false);
        Check.feed(x, 100, 1);
        x.write(1, 0);
        x.commit();
        x.make(0, 2, true);
        x.make(2, 1, false);
        Check.feed(x, 100, 101);
        x.write(1, 50);
        x.remove(0, 1);
        x.feed(3, 5);
        CHECK.due("drop", x.drop(), 5);
        CHECK.due("the file is there", x.find(0, 1), 1);
        CHECK.due("with its size", x.node(1, 1), 100);
        CHECK.due("with its bytes", x.read(1, 56), 0x403f3e3d3c3b3a39L);
        CHECK.due("the new directory is not", x.find(0, 2), -1);
        CHECK.due("blocks free", x.look(1), 34);
        CHECK.due("inodes free", x.look(2), 62);
        CHECK.due("nothing is changed", x.look(3), 0);
        CHECK.due("the tape stays", x.look(5), 3);
        CHECK.due("drop again", x.drop(), 0);
    }

    /** File 1, whose one byte is committed as 5 and now 6, in block 60. */
    private static Tree fiveThenSix() {
        Tree x = new Tree(96);
        x.make(0, 1, false);
        x.feed(1, 5);
        x.write(1, 0);
        x.commit();
        x.feed(1, 6);
        x.write(1, 0);
        return x;
    }

    private static void freeBlocksHaveCommittedBytes() {
        Tree x = fiveThenSix();
        CHECK.due("before it is given back", x.at(60, 0, false), 6);
        x.cut(1, 0);
        CHECK.due("given back", x.at(60, 0, false), 5);
        CHECK.due("commit the inode and the map", x.commit(), 2);
        CHECK.due("free and committed", x.at(60, 0, true), 5);
        CHECK.due("and now", x.at(60, 0, false), 5);
    }

    private static void takenBlocksHaveZeros() {
        Tree x = new Tree(96);
        x.make(0, 1, false);
        x.feed(8, -1);
        x.write(1, 0);
        x.commit();
        x.cut(1, 0);
        x.commit();
        CHECK.due("take it again", x.cut(1, 8), 8);
        CHECK.due("it has 0s", x.read(1, 0), 0);
        CHECK.due("so it is changed, with inode and map", x.look(3), 3);
        CHECK.due("it", x.changed(2), 60);
        CHECK.due("its committed byte", x.at(60, 0, true), 255);
        CHECK.due("drop", x.drop(), 3);
        CHECK.due("free again", x.at(60, 0, false), 255);
        x.cut(1, 64 + 8);
        CHECK.due("a block that has had 0s is not changed", x.look(3), 3);
    }

    private static void promise14Rises() {
        Tree x = new Tree(768);
        int inode = Check.file(x, 1, 500 * 64);
        x.make(0, 2, false);
        x.make(0, 3, false);
        x.commit();
        Check.feed(x, 1, 9);
        x.write(inode, 499 * 64);
        Check.feed(x, 1, 9);
        x.write(inode, 2 * 64);
        x.cut(3, 1);
        int[] due = {26, 58, 62, 559};
        CHECK.due("changed blocks", x.look(3), due.length);
        for (int i = 0; i < due.length; i++) {
            CHECK.due("changed(" + i + ")", x.changed(i), due[i]);
        }
    }

    private static void promise14Map() {
        for (int block = 511; block <= 512; block++) {
            Tree x = new Tree(600);
            int size = (block - 60) * 64;
            int inode = Check.file(x, 1, size);
            x.commit();
            x.cut(inode, size + 1);
            CHECK.due("the inode", x.changed(0), 25);
            CHECK.due("the map's block for " + block, x.changed(1), block == 511 ? 57 : 58);
            CHECK.due("no other", x.look(3), 2);
        }
    }

    private static void promise14Wrong() {
        Tree x = new Tree(96);
        Class<NoSuchElementException> none = NoSuchElementException.class;
        CHECK.dueThrow("changed(0) of a new one", none, () -> x.changed(0));
        x.make(0, 1, false);
        CHECK.due("changed(2)", x.changed(2), 59);
        for (int i : new int[] {3, -1, 768, Integer.MAX_VALUE, Integer.MIN_VALUE}) {
            CHECK.dueThrow("changed(" + i + ")", none, () -> x.changed(i));
        }
        x.commit();
        CHECK.dueThrow("changed(0) after commit", none, () -> x.changed(0));
    }

    private static void backToCommittedIsNotChanged() {
        Tree x = fiveThenSix();
        CHECK.due("another byte", x.look(3), 1);
        x.feed(1, 5);
        x.write(1, 0);
        CHECK.due("the byte that was", x.look(3), 0);
        x.make(0, 2, false);
        x.remove(0, 2);
        CHECK.due("made and removed", x.look(3), 0);
    }

    /** File 1, committed, with blocks 60 .. 87; then so many of them are changed. */
    private static Tree changedBlocks(int count) {
        Tree x = new Tree(96);
        Check.file(x, 1, 28 * 64);
        x.commit();
        for (int i = 0; i < count; i++) {
            x.feed(1, i + 1);
            x.write(1, 64 * i);
        }
        CHECK.due("changed", x.look(3), count);
        CHECK.due("commits first", x.look(4), 0);
        return x;
    }

    private static void operationCommitsFirst() {
        Tree x = changedBlocks(24);
        x.feed(1, 40);
        CHECK.due("one more", x.write(1, 64 * 24), 28 * 64);
        CHECK.due("commits first", x.look(4), 1);
        CHECK.due("then one is changed", x.look(3), 1);
        CHECK.due("the last one", x.changed(0), 84);
        CHECK.due("what was before is committed", x.at(83, 0, true), 24);
        CHECK.due("the operation is not", x.at(84, 0, true), 0);
        CHECK.due("drop the operation", x.drop(), 1);
        CHECK.due("it is gone", x.read(1, 64 * 24), 0);
        CHECK.due("what was before stays", x.read(1, 64 * 23), 24);
        CHECK.due("the count stays", x.look(4), 1);

        Tree y = changedBlocks(24);
        y.feed(1, 99);
        y.write(1, 5);
        CHECK.due("24 are not too many", y.look(3) + 100 * y.look(4), 24);
        y.feed(8, -1);
        y.write(1, 64 * 24 - 4);
        CHECK.due("a block from before, and a new one", y.look(3) + 100 * y.look(4), 102);
        CHECK.due("before, committed", y.at(83, 0, true), 24);
        CHECK.due("its end is not committed", y.at(83, 63, true), 0);
        CHECK.due("its end now", y.at(83, 63, false), 255);
    }

    private static void operationCommitsWhatItGivesBack() {
        Tree x = new Tree(96);
        x.make(0, 1, true);
        x.make(0, 2, false);
        x.make(0, 3, false);
        x.make(1, 1, false);
        Check.feed(x, 64, 1);
        x.write(2, 0);
        x.cut(3, 1024);
        x.cut(3, 23 * 64);
        x.commit();
        x.feed(1, 100);
        x.write(2, 0);
        for (int i = 0; i < 23; i++) {
            x.feed(1, i + 1);
            x.write(3, 64 * i);
        }
        CHECK.due("changed", x.look(3), 24);
        CHECK.due("the file's block", x.node(2, 3), 61);
        CHECK.due("replace the file", x.move(0, 3, 0, 2), 0);
        CHECK.due("without it, but with the inode, the map and the root", x.look(3) + 100 * x.look(4), 103);
        CHECK.due("its block is free: now", x.at(61, 0, false), 100);
        CHECK.due("and as it was committed first", x.at(61, 0, true), 100);
    }

    private static void failedOperationDoesNotCommitFirst() {
        Tree x = changedBlocks(24);
        CHECK.due("blocks free", x.look(1), 8);
        CHECK.due("too large", x.cut(1, 28 * 64 + 8 * 64 + 1), -4);
        CHECK.due("no commit first", x.look(3) + 100 * x.look(4), 24);
        CHECK.due("no such entry", x.remove(0, 9), -1);
        CHECK.due("move to the same", x.move(0, 1, 0, 1), 0);
        CHECK.due("still no commit first", x.look(3) + 100 * x.look(4), 24);
        CHECK.due("a new name does", x.move(0, 1, 0, 2), 0);
        CHECK.due("one commit first", x.look(3) + 100 * x.look(4), 101);
    }
}
