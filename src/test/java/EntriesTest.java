/** Promises 3, 4, 8 and 9: make, find, move, remove. */
public final class EntriesTest {
    private static final Check CHECK = new Check();

    public static void main(String[] args) {
        promise3Answers();
        promise3Places();
        promise3NoInode();
        promise3NoBlock();
        promise4Answers();
        promise8Moves();
        promise8Renames();
        promise8Replaces();
        promise8Faults();
        promise8IntoItself();
        promise8IntoWhatWasWithin();
        promise8NoBlock();
        promise9Removes();
        promise9Faults();
        wrongArguments();
        CHECK.end();
    }

    private static void promise3Answers() {
        Tree x = new Tree(96);
        CHECK.due("make a file", x.make(0, 65535, false), 1);
        CHECK.due("make a directory", x.make(0, 1, true), 2);
        CHECK.due("make in it", x.make(2, 65535, true), 3);
        CHECK.due("kind of 1", x.node(1, 0), 1);
        CHECK.due("kind of 2", x.node(2, 0), 2);
        CHECK.due("size of 3", x.node(3, 1), 0);
        CHECK.due("make in a free inode", x.make(4, 1, false), -1);
        CHECK.due("make in a file", x.make(1, 1, false), -5);
        CHECK.due("make a name again", x.make(0, 1, false), -2);
        CHECK.due("make a name again as directory", x.make(0, 65535, true), -2);
        CHECK.due("inodes free", x.look(2), 60);
        x.remove(0, 65535);
        CHECK.due("make takes the least free inode", x.make(2, 5, false), 1);
    }

    private static void promise3Places() {
        Tree x = new Tree(96);
        for (int i = 1; i <= 16; i++) {
            x.make(0, 0x0100 + i, false);
        }
        CHECK.due("16 entries are a block", x.node(0, 1), 64);
        CHECK.due("entry 15", x.at(59, 60, false) + (x.at(59, 61, false) << 8), 0x0110);
        CHECK.due("entry 15's inode", x.at(59, 62, false), 16);
        CHECK.due("entry 15's last byte", x.at(59, 63, false), 0);
        x.make(0, 17, true);
        CHECK.due("17 entries are two", x.node(0, 1), 128);
        CHECK.due("entry 16", x.read(0, 64), 17L | 17L << 16);
        x.remove(0, 0x0103);
        CHECK.due("an empty entry's bytes", x.read(0, 8), 0x0104L << 32 | 4L << 48);
        x.remove(0, 0x0105);
        CHECK.due("make after two removes", x.make(0, 99, false), 3);
        CHECK.due("it comes into the first empty one", x.read(0, 8), 99L | 3L << 16 | 0x0104L << 32 | 4L << 48);
        CHECK.due("the directory's size stays", x.node(0, 1), 128);
    }

    private static void promise3NoInode() {
        Tree x = new Tree(96);
        for (int i = 1; i <= 63; i++) {
            CHECK.due("make " + i, x.make(0, i, i % 2 == 0), i);
        }
        CHECK.due("inodes free", x.look(2), 0);
        CHECK.due("no inode", x.make(0, 64, false), -3);
        CHECK.due("-2 before -3", x.make(0, 63, false), -2);
        CHECK.due("-5 before -3", x.make(1, 64, false), -5);
        Check.feed(x, 1, 1);
        x.write(1, 0);
        x.cut(1, 1025);
        x.cut(1, 2048);
        CHECK.due("blocks free", x.look(1), 1);
        x.cut(1, 2112);
        CHECK.due("no blocks free", x.look(1), 0);
        CHECK.due("-3 before -4", x.make(2, 5, false), -3);
        CHECK.due("a directory without blocks", x.node(2, 2), 0);
    }

    private static void promise3NoBlock() {
        Tree x = full();
        int changedBlocks = x.look(3);
        CHECK.due("no block for an entry", x.make(2, 5, false), -4);
        CHECK.due("no inode was used", x.look(2), 61);
        CHECK.due("the directory is as it was", x.node(2, 1) + x.node(2, 2), 0);
        CHECK.due("as many blocks are changed", x.look(3), changedBlocks);
        CHECK.due("make where there is place", x.make(0, 9, false), 3);
    }

    /** The root with file 1 of name 1 and directory 2 of name 2, and no block free. */
    private static Tree full() {
        Tree x = new Tree(96);
        Check.file(x, 1, 36 * 64);
        x.make(0, 2, true);
        CHECK.due("a full disk", x.look(1), 0);
        return x;
    }

    private static void promise4Answers() {
        Tree x = new Tree(96);
        CHECK.due("find in an empty root", x.find(0, 1), -1);
        for (int i = 1; i <= 40; i++) {
            x.make(0, 1000 * i, i == 40);
        }
        for (int i = 1; i <= 40; i++) {
            CHECK.due("find " + i, x.find(0, 1000 * i), i);
        }
        CHECK.due("find a name there is not", x.find(0, 1001), -1);
        CHECK.due("find in another directory", x.find(40, 1000), -1);
        CHECK.due("find in a free inode", x.find(41, 1000), -1);
        CHECK.due("find in a file", x.find(1, 1000), -5);
        x.make(0, 256, false);
        CHECK.due("both bytes of a name count", x.find(0, 1), -1);
        x.remove(0, 1000);
        CHECK.due("find what was removed", x.find(0, 1000), -1);
    }

    private static void promise8Moves() {
        Tree x = new Tree(96);
        x.make(0, 1, false);
        x.make(0, 2, true);
        x.make(0, 3, true);
        Check.feed(x, 8, 1);
        x.write(1, 0);
        CHECK.due("move a file", x.move(0, 1, 2, 7), 0);
        CHECK.due("it is gone", x.find(0, 1), -1);
        CHECK.due("it is there", x.find(2, 7), 1);
        CHECK.due("its bytes stay", x.read(1, 0), 0x0807060504030201L);
        CHECK.due("the first entry is empty", x.read(0, 0) & 0xffffffffL, 0);
        CHECK.due("move a directory", x.move(0, 2, 3, 2), 0);
        CHECK.due("it is there with all in it", x.find(x.find(3, 2), 7), 1);
        CHECK.due("move it back", x.move(3, 2, 0, 9), 0);
        CHECK.due("it comes into the first empty entry", x.read(0, 0), 9L | 2L << 16);
        CHECK.due("move what is in it to the root", x.move(2, 7, 0, 7), 0);
        CHECK.due("directories", x.look(6), 3);
    }

    private static void promise8Renames() {
        Tree x = new Tree(96);
        for (int i = 1; i <= 16; i++) {
            x.make(0, i, false);
        }
        x.commit();
        CHECK.due("the same one", x.move(0, 3, 0, 3), 0);
        CHECK.due("nothing changes", x.look(3), 0);
        CHECK.due("a new name in a full block", x.move(0, 3, 0, 300), 0);
        CHECK.due("it has the entry it had", x.read(0, 8), 300L | 3L << 16 | 4L << 32 | 4L << 48);
        CHECK.due("the directory has not grown", x.node(0, 1), 64);
        x.remove(0, 1);
        CHECK.due("a new name behind an empty entry", x.move(0, 5, 0, 500), 0);
        CHECK.due("it comes into the first empty one", x.read(0, 0) & 0xffffffffL, 500L | 5L << 16);
        CHECK.due("its own became empty", x.read(0, 16) & 0xffffffffL, 0);
    }

    private static void promise8Replaces() {
        Tree x = new Tree(96);
        x.make(0, 1, false);
        x.make(0, 2, false);
        x.cut(1, 100);
        x.cut(2, 200);
        int free = x.look(1);
        CHECK.due("a file replaces a file", x.move(0, 1, 0, 2), 0);
        CHECK.due("the replaced inode is free", x.node(2, 0) + x.node(2, 1) + x.node(2, 2), 0);
        CHECK.due("its blocks are free", x.look(1), free + 4);
        CHECK.due("the entry has the moved inode", x.find(0, 2), 1);
        CHECK.due("the first entry is empty", x.read(0, 0), (2L | 1L << 16) << 32);
        x.make(0, 5, true);
        x.make(0, 6, true);
        x.make(3, 1, false);
        x.remove(3, 1);
        CHECK.due("an empty directory with a block", x.node(3, 1), 64);
        free = x.look(1);
        CHECK.due("a directory replaces an empty one", x.move(0, 5, 0, 6), 0);
        CHECK.due("the entry has the moved directory", x.find(0, 6), 2);
        CHECK.due("the replaced directory's block is free", x.look(1), free + 1);
        CHECK.due("all bytes of a free inode are 0", inodeBytes(x, 3), 0);
    }

    private static int inodeBytes(Tree x, int inode) {
        int sum = 0;
        for (int k = 0; k < 32; k++) {
            sum += x.at(25 + inode / 2, 32 * (inode % 2) + k, false);
        }
        return sum;
    }

    private static void promise8Faults() {
        Tree x = new Tree(96);
        x.make(0, 1, false);
        x.make(0, 2, true);
        x.make(0, 3, true);
        x.make(2, 4, false);
        x.commit();
        CHECK.due("from a free inode", x.move(9, 1, 9, 1), -1);
        CHECK.due("from a file", x.move(1, 1, 9, 1), -5);
        CHECK.due("no such entry, before the other directory", x.move(0, 9, 1, 1), -1);
        CHECK.due("to a free inode", x.move(0, 1, 9, 1), -1);
        CHECK.due("to a file", x.move(0, 1, 1, 1), -5);
        CHECK.due("a file onto a directory that is not empty", x.move(0, 1, 0, 2), -5);
        CHECK.due("a file onto an empty directory", x.move(0, 1, 0, 3), -5);
        CHECK.due("a directory onto a file", x.move(0, 3, 0, 1), -5);
        CHECK.due("a directory onto a file within it", x.move(0, 2, 2, 4), -5);
        CHECK.due("a directory onto one that is not empty", x.move(0, 3, 0, 2), -6);
        CHECK.due("nothing changed", x.look(3), 0);
    }

    private static void promise8IntoItself() {
        Tree x = new Tree(768);
        for (int i = 0; i < 40; i++) {
            CHECK.due("a deep tree " + i, x.make(i, 5, true), i + 1);
        }
        x.make(1, 6, true);
        CHECK.due("into itself", x.move(0, 5, 1, 9), -7);
        CHECK.due("into one deep within it", x.move(0, 5, 40, 9), -7);
        CHECK.due("onto an empty one within it", x.move(0, 5, 1, 6), -7);
        CHECK.due("onto one within it that is not empty", x.move(0, 5, 1, 5), -6);
        CHECK.due("onto the one above it", x.move(1, 5, 0, 5), -6);
        CHECK.due("from within to beside", x.move(20, 5, 41, 5), 0);
        CHECK.due("the one above into what was in it", x.move(19, 5, 40, 9), 0);
        CHECK.due("and that into it no more", x.move(41, 5, 20, 9), -7);
    }

    private static void promise8IntoWhatWasWithin() {
        Tree x = new Tree(96);
        x.make(0, 1, true);
        x.make(0, 2, true);
        CHECK.due("1 into 2", x.move(0, 1, 2, 1), 0);
        CHECK.due("2 into 1, which is within it", x.move(0, 2, 1, 2), -7);
        CHECK.due("1 back into the root", x.move(2, 1, 0, 1), 0);
        CHECK.due("2 into 1, which was within it", x.move(0, 2, 1, 2), 0);
    }

    private static void promise8NoBlock() {
        Tree x = full();
        x.commit();
        CHECK.due("no block for the new entry", x.move(0, 1, 2, 5), -4);
        CHECK.due("the first entry is there", x.find(0, 1), 1);
        CHECK.due("nothing changed", x.look(3), 0);
        CHECK.due("-7 before -4", x.move(0, 2, 2, 5), -7);
        CHECK.due("a new name needs none", x.move(0, 1, 0, 5), 0);
    }

    private static void promise9Removes() {
        Tree x = new Tree(96);
        Check.file(x, 1, 300);
        x.make(0, 2, true);
        x.make(2, 3, false);
        x.commit();
        CHECK.due("blocks free", x.look(1), 30);
        CHECK.due("remove a file", x.remove(0, 1), 0);
        CHECK.due("its blocks are free", x.look(1), 35);
        CHECK.due("its inode's bytes", inodeBytes(x, 1), 0);
        CHECK.due("its entry is empty", x.read(0, 0), (2L | 2L << 16) << 32);
        CHECK.due("remove a directory that is not empty", x.remove(0, 2), -6);
        CHECK.due("remove what is in it", x.remove(2, 3), 0);
        CHECK.due("its size stays", x.node(2, 1), 64);
        CHECK.due("remove the empty directory", x.remove(0, 2), 0);
        CHECK.due("its block is free", x.look(1), 36);
        CHECK.due("inodes free", x.look(2), 63);
        CHECK.due("the root's size stays", x.node(0, 1), 64);
        CHECK.due("directories", x.look(6), 1);
    }

    private static void promise9Faults() {
        Tree x = new Tree(96);
        x.make(0, 1, false);
        x.commit();
        CHECK.due("remove in a free inode", x.remove(2, 1), -1);
        CHECK.due("remove in a file", x.remove(1, 1), -5);
        CHECK.due("remove what is not there", x.remove(0, 2), -1);
        CHECK.due("nothing changed", x.look(3), 0);
        x.remove(0, 1);
        CHECK.due("remove it again", x.remove(0, 1), -1);
    }

    private static void wrongArguments() {
        Tree x = new Tree(96);
        x.make(0, 1, true);
        Class<IllegalArgumentException> wrong = IllegalArgumentException.class;
        for (int inode : new int[] {-1, 64, 256, Integer.MAX_VALUE, Integer.MIN_VALUE}) {
            CHECK.dueThrow("make in " + inode, wrong, () -> x.make(inode, 1, false));
            CHECK.dueThrow("find in " + inode, wrong, () -> x.find(inode, 1));
            CHECK.dueThrow("move from " + inode, wrong, () -> x.move(inode, 1, 0, 1));
            CHECK.dueThrow("move to " + inode, wrong, () -> x.move(0, 9, inode, 1));
            CHECK.dueThrow("remove in " + inode, wrong, () -> x.remove(inode, 1));
        }
        for (int name : new int[] {0, -1, 65536, 65537, Integer.MAX_VALUE, Integer.MIN_VALUE}) {
            CHECK.dueThrow("make " + name, wrong, () -> x.make(9, name, false));
            CHECK.dueThrow("find " + name, wrong, () -> x.find(9, name));
            CHECK.dueThrow("move " + name, wrong, () -> x.move(9, name, 0, 1));
            CHECK.dueThrow("move to name " + name, wrong, () -> x.move(9, 1, 0, name));
            CHECK.dueThrow("remove " + name, wrong, () -> x.remove(9, name));
        }
        CHECK.due("nothing came of it", x.find(0, 1) + 100 * x.look(2), 6201);
    }
}
