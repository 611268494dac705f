import java.util.NoSuchElementException;
import java.util.function.Consumer;

/** The sentences of promises 8 to 15 that name a bound: move, remove, commit, drop, node, at, changed, look. */
public final class BoundsOfPromises8To15Test {
    private static final Check CHECK = new Check();
    private static final Class<IllegalArgumentException> WRONG = IllegalArgumentException.class;
    private static final Class<NoSuchElementException> NONE = NoSuchElementException.class;
    private static final int LEAST = Integer.MIN_VALUE;
    private static final int MOST = Integer.MAX_VALUE;
    private static final int[] WRONG_INODES = {-1, 64, 65, 256, MOST, LEAST};
    private static final int[] WRONG_NAMES = {0, -1, 65536, 65537, 131072, MOST, LEAST};

    public static void main(String[] args) {
        promise8OneDirectory();
        promise8NoSuchEntry();
        promise8OtherDirectory();
        promise8SameOne();
        promise8JustOneIsADirectory();
        promise8NotEmpty();
        promise8IntoItself();
        promise8NoBlock();
        promise8FirstThatHolds();
        promise8OntoAnother();
        promise8FirstBecomesEmpty();
        promise8Throws();
        promise9Removes();
        promise9NotEmpty();
        notEmptyByAnyName();
        promise9FirstThatHolds();
        promise9SizeStays();
        promise9Throws();
        promise10HowMany();
        promise11HowMany();
        promise12Whats();
        promise12NoSuchExtentOrWhat();
        promise12Throws();
        promise13BlocksAndBytes();
        promise13NowAndCommitted();
        promise13Throws();
        promise14Rises();
        promise14NoSuch();
        promise15AtTheirEnds();
        promise15CommitsFirst();
        promise15Throws();
        CHECK.end();
    }

    /** Files 1 and 2, empty directories 3 and 4, directory 5 with file 6 and directory 7; each is its own name. */
    private static void tree(Tree x) {
        x.make(0, 1, false);
        x.make(0, 2, false);
        x.make(0, 3, true);
        x.make(0, 4, true);
        x.make(0, 5, true);
        x.make(5, 6, false);
        x.make(5, 7, true);
        x.commit();
    }

    private static Tree newTree() {
        Tree x = new Tree(96);
        tree(x);
        return x;
    }

    private static void promise8OneDirectory() {
        CHECK.sentence("8: -1, -5 for the one directory");
        Tree x = newTree();
        CHECK.due("a free one", x.move(8, 1, 0, 9), -1);
        CHECK.due("the last one, free", x.move(63, 1, 0, 9), -1);
        CHECK.due("a file", x.move(1, 1, 0, 9), -5);
        CHECK.due("a file onto itself", x.move(1, 1, 1, 1), -5);
        CHECK.due("a free one onto itself", x.move(8, 1, 8, 1), -1);
        CHECK.due("nothing is changed", x.look(3), 0);
    }

    private static void promise8NoSuchEntry() {
        CHECK.sentence("8: -1 for the entry");
        Tree x = newTree();
        CHECK.due("no such name", x.move(0, 6, 0, 9), -1);
        CHECK.due("in an empty directory", x.move(3, 1, 0, 9), -1);
        CHECK.due("onto its own name, which is not there", x.move(0, 9, 0, 9), -1);
        CHECK.due("in an empty root", new Tree(96).move(0, 1, 0, 1), -1);
        x.move(0, 1, 0, 9);
        CHECK.due("its former name", x.move(0, 1, 0, 8), -1);
    }

    private static void promise8OtherDirectory() {
        CHECK.sentence("8: -1, -5 for the other directory");
        Tree x = newTree();
        CHECK.due("a free one", x.move(0, 1, 8, 1), -1);
        CHECK.due("the last one, free", x.move(0, 1, 63, 1), -1);
        CHECK.due("a file", x.move(0, 1, 2, 1), -5);
        CHECK.due("the moved file itself", x.move(0, 1, 1, 1), -5);
        CHECK.due("a directory into a file", x.move(0, 3, 2, 1), -5);
        CHECK.due("nothing is changed", x.look(3), 0);
    }

    private static void promise8SameOne() {
        CHECK.sentence("8: 0, and nothing changes, if it is the same one");
        CHECK.changesNothing("onto the same", 96, BoundsOfPromises8To15Test::tree, x -> {
            CHECK.due("a file", x.move(0, 1, 0, 1), 0);
            CHECK.due("an empty directory", x.move(0, 3, 0, 3), 0);
            CHECK.due("a directory that is not empty", x.move(0, 5, 0, 5), 0);
            CHECK.due("a file within one", x.move(5, 6, 5, 6), 0);
            CHECK.due("a directory within one", x.move(5, 7, 5, 7), 0);
        });
        Tree x = newTree();
        CHECK.due("the same name in another directory", x.move(0, 3, 4, 3), 0);
        CHECK.due("is not the same one", x.find(4, 3), 3);
        CHECK.due("it is gone", x.find(0, 3), -1);
        CHECK.due("a file of the same name elsewhere", x.make(5, 1, false), 8);
        CHECK.due("is not the same one", x.move(0, 1, 5, 1), 0);
        CHECK.due("it is the moved one", x.find(5, 1), 1);
        CHECK.due("the moved one is there alone", x.find(0, 1), -1);
        CHECK.due("the other one is free", x.node(8, 0), 0);
    }

    private static void promise8JustOneIsADirectory() {
        CHECK.sentence("8: -5 if just one of both is a directory");
        CHECK.changesNothing("file and directory", 96, BoundsOfPromises8To15Test::tree, x -> {
            CHECK.due("a file onto an empty directory", x.move(0, 1, 0, 3), -5);
            CHECK.due("a file onto one that is not empty", x.move(0, 1, 0, 5), -5);
            CHECK.due("a file onto one elsewhere", x.move(0, 1, 5, 7), -5);
            CHECK.due("an empty directory onto a file", x.move(0, 3, 0, 1), -5);
            CHECK.due("a directory onto a file", x.move(0, 5, 0, 1), -5);
            CHECK.due("a directory onto a file within it", x.move(0, 5, 5, 6), -5);
        });
        Tree x = newTree();
        CHECK.due("file onto file", x.move(0, 1, 0, 2), 0);
        CHECK.due("directory onto empty directory", x.move(0, 5, 0, 3), 0);
    }

    private static void promise8NotEmpty() {
        CHECK.sentence("8: -6 if it is one that is not empty");
        Tree x = newTree();
        CHECK.due("with two entries", x.move(0, 3, 0, 5), -6);
        CHECK.due("the one that it is in", x.move(5, 7, 0, 5), -6);
        x.remove(5, 6);
        CHECK.due("with one", x.move(0, 3, 0, 5), -6);
        x.remove(5, 7);
        CHECK.due("with none any more, of size 64", x.move(0, 3, 0, 5), 0);
        CHECK.due("its block is free", x.look(1), 36);
        CHECK.due("its inode is free", x.node(5, 0), 0);
        CHECK.due("a directory onto an empty one of size 0", x.move(0, 4, 0, 5), 0);
        CHECK.due("it is there", x.find(0, 5), 4);
        Tree y = new Tree(96);
        y.make(0, 1, true);
        y.make(0, 2, true);
        for (int i = 1; i <= 17; i++) {
            y.make(1, i, false);
        }
        for (int i = 1; i <= 16; i++) {
            y.remove(1, i);
        }
        CHECK.due("with one, in its second block", y.move(0, 2, 0, 1), -6);
        y.remove(1, 17);
        CHECK.due("with none, of size 128", y.move(0, 2, 0, 1), 0);
    }

    private static void promise8IntoItself() {
        CHECK.sentence("8: -7: a directory would come into itself, or into one within it");
        Tree x = new Tree(96);
        for (int i = 0; i < 35; i++) {
            CHECK.due("a directory in the one before", x.make(i, 1, true), i + 1);
        }
        CHECK.due("into itself", x.move(0, 1, 1, 9), -7);
        CHECK.due("into the one within it", x.move(0, 1, 2, 9), -7);
        CHECK.due("into the last one within it", x.move(0, 1, 35, 9), -7);
        CHECK.due("the last but one into the last", x.move(33, 1, 35, 9), -7);
        CHECK.due("the last one into itself", x.move(34, 1, 35, 9), -7);
        x.make(34, 2, true);
        CHECK.due("onto an empty one within it", x.move(0, 1, 34, 2), -7);
        CHECK.due("out of it", x.move(34, 1, 0, 9), 0);
        CHECK.due("into what is beside it", x.move(0, 1, 35, 9), 0);
        CHECK.due("that into it", x.move(0, 9, 34, 9), -7);
        CHECK.due("a file into the directory that it is in", x.make(1, 5, false), 37);
        CHECK.due("is not into itself", x.move(1, 5, 1, 6), 0);
        Tree y = newTree();
        CHECK.due("into one that it was the one above", y.move(5, 7, 0, 7), 0);
        CHECK.due("then that into it", y.move(0, 5, 7, 5), 0);
        CHECK.due("and it not into that", y.move(0, 7, 5, 7), -7);
    }

    /** Files 1 and 2 and directory 3 in a root of one block, and no block free. */
    private static void fullDisk(Tree x) {
        Check.file(x, 1, 36 * 64);
        x.make(0, 2, false);
        x.make(0, 3, true);
        x.commit();
    }

    private static void promise8NoBlock() {
        CHECK.sentence("8: -4");
        CHECK.changesNothing("without a block", 96, BoundsOfPromises8To15Test::fullDisk, x -> {
            CHECK.due("into a directory without one", x.move(0, 2, 3, 2), -4);
            CHECK.due("of the largest file", x.move(0, 1, 3, 1), -4);
        });
        Tree x = new Tree(96);
        fullDisk(x);
        CHECK.due("to another name", x.move(0, 2, 0, 99), 0);
        for (int i = 4; i <= 16; i++) {
            x.make(0, i, true);
        }
        CHECK.due("the root is full", x.make(0, 17, false), -4);
        CHECK.due("to another name in a full one", x.move(0, 99, 0, 10000), 0);
        CHECK.due("in the same place", x.read(0, 4) & 0xffffff, 10000 | 2 << 16);
        CHECK.due("onto another one", x.move(0, 16, 0, 15), 0);
        CHECK.due("a file onto one that has blocks", x.move(0, 10000, 0, 1), 0);
        CHECK.due("those are free", x.look(1), 36);
        CHECK.due("now into the directory", x.move(0, 1, 3, 2), 0);
    }

    private static void promise8FirstThatHolds() {
        CHECK.sentence("8: otherwise the first that holds");
        CHECK.changesNothing("in their order", 96, BoundsOfPromises8To15Test::tree, x -> {
            CHECK.due("-1 for the one before -5 for the other", x.move(8, 1, 1, 1), -1);
            CHECK.due("-5 for the one before -1 for the other", x.move(1, 1, 8, 1), -5);
            CHECK.due("-1 for the entry before -5 for the other", x.move(0, 9, 1, 1), -1);
            CHECK.due("-1 for the other", x.move(0, 5, 8, 1), -1);
            CHECK.due("-5 for the other", x.move(0, 5, 1, 1), -5);
            CHECK.due("-5 for both before -6", x.move(0, 1, 0, 5), -5);
            CHECK.due("-5 for both before -7", x.move(0, 5, 5, 6), -5);
            CHECK.due("-7", x.move(0, 5, 5, 7), -7);
        });
        Consumer<Tree> deeper = x -> {
            tree(x);
            x.make(7, 1, false);
        };
        CHECK.changesNothing("-6 before -7", 96, deeper, x -> CHECK.due("move", x.move(0, 5, 5, 7), -6));
        CHECK.changesNothing("-7 before -4", 96, BoundsOfPromises8To15Test::fullDisk,
            x -> CHECK.due("move", x.move(0, 3, 3, 1), -7));
    }

    private static void promise8OntoAnother() {
        CHECK.sentence("8: If there was one, its inode is freed, it has the moved one's inode, the first becomes empty");
        Tree x = newTree();
        x.cut(2, 200);
        x.cut(1, 10);
        CHECK.due("blocks free", x.look(1), 30);
        CHECK.due("file onto file", x.move(0, 1, 5, 6), 0);
        CHECK.dueInode("the freed one", x, 6);
        CHECK.due("the entry", x.read(5, 0), 6L | 1L << 16 | 7L << 32 | 7L << 48);
        CHECK.due("the first entry", x.read(0, 0), (2L | 2L << 16) << 32);
        CHECK.due("its size", x.node(1, 1), 10);
        CHECK.due("file onto a file with blocks", x.move(5, 6, 0, 2), 0);
        CHECK.due("its blocks are free", x.look(1), 34);
        CHECK.due("the root's entries", x.read(0, 0), (2L | 1L << 16) << 32);
        CHECK.due("the other directory's", x.read(5, 0), (7L | 7L << 16) << 32);
        CHECK.due("a directory onto the one right behind it", x.move(0, 3, 0, 4), 0);
        CHECK.due("their entries", x.read(0, 8), (4L | 3L << 16) << 32);
        CHECK.dueInode("the freed one", x, 4);
        CHECK.due("the least free inode", x.make(3, 1, false), 2);
        CHECK.due("directories", x.look(6), 4);
    }

    private static void promise8FirstBecomesEmpty() {
        CHECK.sentence("8: otherwise the first one becomes empty, and then a new entry is made");
        Tree x = new Tree(96);
        for (int i = 1; i <= 16; i++) {
            x.make(0, i, false);
        }
        CHECK.due("the last of a full block", x.move(0, 16, 0, 65535), 0);
        CHECK.dueBytes("the same entry", x, 59, 60, 255, 255, 16, 0);
        CHECK.due("the size stays", x.node(0, 1), 64);
        CHECK.due("the first of a full block", x.move(0, 1, 0, 256), 0);
        CHECK.dueBytes("the same entry", x, 59, 0, 0, 1, 1, 0);
        x.remove(0, 8);
        CHECK.due("with an empty one behind it", x.move(0, 4, 0, 40), 0);
        CHECK.dueBytes("the same entry, which is the first empty one", x, 59, 12, 40, 0, 4, 0);
        CHECK.due("with an empty one before it", x.move(0, 12, 0, 120), 0);
        CHECK.dueBytes("the one before", x, 59, 28, 120, 0, 12, 0);
        CHECK.dueBytes("its own", x, 59, 44, 0, 0, 0, 0);
        x.make(0, 500, true);
        CHECK.due("into another one, which grows", x.move(0, 2, 8, 2), 0);
        CHECK.dueInode("it has grown", x, 8, 2, 1, 64, 0, 60, 0, 1);
        CHECK.dueBytes("its entry", x, 60, 0, 2, 0, 2, 0, 0, 0, 0, 0);
        CHECK.dueBytes("the first one", x, 59, 4, 0, 0, 0, 0);
    }

    private static void promise8Throws() {
        CHECK.sentence("8: throws IllegalArgumentException for a wrong inode or name");
        Tree x = newTree();
        for (int inode : WRONG_INODES) {
            CHECK.dueThrow("move from " + inode, WRONG, () -> x.move(inode, 1, 0, 9));
            CHECK.dueThrow("move to " + inode, WRONG, () -> x.move(0, 1, inode, 9));
            CHECK.dueThrow("move from a free one to " + inode, WRONG, () -> x.move(9, 1, inode, 9));
        }
        for (int name : WRONG_NAMES) {
            CHECK.dueThrow("move " + name, WRONG, () -> x.move(0, name, 0, 9));
            CHECK.dueThrow("move to name " + name, WRONG, () -> x.move(0, 1, 0, name));
            CHECK.dueThrow("move what is not there to name " + name, WRONG, () -> x.move(0, 99, 0, name));
        }
        CHECK.due("nothing is changed", x.look(3), 0);
        CHECK.due("to the largest name", x.move(0, 1, 0, 65535), 0);
        CHECK.due("and to the least", x.move(0, 65535, 0, 1), 0);
    }

    private static void promise9Removes() {
        CHECK.sentence("9: An entry becomes empty, its inode is freed: 0");
        Tree x = newTree();
        x.cut(1, 1024);
        x.cut(1, 1025);
        CHECK.due("blocks free", x.look(1), 18);
        CHECK.due("a file with blocks", x.remove(0, 1), 0);
        CHECK.due("they are free", x.look(1), 35);
        CHECK.dueInode("its inode", x, 1);
        CHECK.dueBytes("its entry", x, 59, 0, 0, 0, 0, 0, 2, 0, 2, 0);
        CHECK.due("an empty file", x.remove(0, 2), 0);
        CHECK.due("an empty directory", x.remove(0, 3), 0);
        CHECK.due("a file within one", x.remove(5, 6), 0);
        CHECK.due("a directory within one", x.remove(5, 7), 0);
        CHECK.due("one that is empty now", x.remove(0, 5), 0);
        CHECK.due("its block is free", x.look(1), 36);
        CHECK.due("the last one", x.remove(0, 4), 0);
        CHECK.due("inodes free", x.look(2), 63);
        CHECK.due("the root alone is left", x.look(6), 1);
    }

    private static void promise9NotEmpty() {
        CHECK.sentence("9: -6");
        Tree x = newTree();
        CHECK.due("with two entries", x.remove(0, 5), -6);
        x.remove(5, 6);
        CHECK.due("with the second one alone", x.remove(0, 5), -6);
        CHECK.due("nothing of it is removed", x.find(x.find(0, 5), 7), 7);
        x.remove(5, 7);
        CHECK.due("with none", x.remove(0, 5), 0);
        Tree y = new Tree(96);
        y.make(0, 1, true);
        for (int i = 1; i <= 17; i++) {
            y.make(1, i, false);
        }
        for (int i = 1; i <= 16; i++) {
            y.remove(1, i);
        }
        CHECK.due("with one, in its second block", y.remove(0, 1), -6);
        y.move(1, 17, 0, 17);
        CHECK.due("with none, of size 128", y.remove(0, 1), 0);
        CHECK.due("both blocks are free", y.look(1), 36);
    }

    /** An entry is empty if its name is 0, not if one byte of the name is. */
    private static void notEmptyByAnyName() {
        CHECK.sentence("8, 9: -6, whatever name the one entry has");
        for (int name : new int[] {1, 255, 256, 257, 512, 65280, 65535}) {
            Tree x = new Tree(96);
            x.make(0, 1, true);
            x.make(0, 2, true);
            x.make(1, name, false);
            CHECK.due("remove, with " + name, x.remove(0, 1), -6);
            CHECK.due("move onto it, with " + name, x.move(0, 2, 0, 1), -6);
            CHECK.due("a new entry beside " + name, x.make(1, 9, false), 4);
            CHECK.due("it stays", x.find(1, name), 3);
        }
    }

    private static void promise9FirstThatHolds() {
        CHECK.sentence("9: otherwise: -1, -5; -1; -6");
        CHECK.changesNothing("refused", 96, BoundsOfPromises8To15Test::tree, x -> {
            CHECK.due("in a free inode", x.remove(8, 1), -1);
            CHECK.due("in the last inode", x.remove(63, 1), -1);
            CHECK.due("in a file", x.remove(1, 1), -5);
            CHECK.due("in a file, another name", x.remove(1, 99), -5);
            CHECK.due("no such entry", x.remove(0, 6), -1);
            CHECK.due("in an empty directory", x.remove(3, 1), -1);
            CHECK.due("not empty", x.remove(0, 5), -6);
        });
        Tree x = newTree();
        x.remove(0, 1);
        CHECK.due("again", x.remove(0, 1), -1);
        CHECK.due("in an empty root", new Tree(96).remove(0, 1), -1);
    }

    private static void promise9SizeStays() {
        CHECK.sentence("9: (A directory's size stays.)");
        Tree x = new Tree(96);
        for (int i = 1; i <= 33; i++) {
            x.make(0, i, false);
        }
        for (int i = 33; i >= 1; i--) {
            CHECK.due("remove " + i, x.remove(0, i), 0);
            CHECK.due("the root's size", x.node(0, 1), 192);
        }
        CHECK.due("its blocks", x.node(0, 4), 3);
        CHECK.due("blocks free", x.look(1), 34);
        for (int offset = 0; offset < 192; offset += 8) {
            CHECK.due("its bytes", x.read(0, offset), 0);
        }
    }

    private static void promise9Throws() {
        CHECK.sentence("9: throws IllegalArgumentException for a wrong inode or name");
        Tree x = newTree();
        for (int inode : WRONG_INODES) {
            CHECK.dueThrow("remove in " + inode, WRONG, () -> x.remove(inode, 1));
        }
        for (int name : WRONG_NAMES) {
            CHECK.dueThrow("remove " + name, WRONG, () -> x.remove(0, name));
            CHECK.dueThrow("remove in a file " + name, WRONG, () -> x.remove(1, name));
            CHECK.dueThrow("remove in a free one " + name, WRONG, () -> x.remove(9, name));
        }
        CHECK.due("nothing is changed", x.look(3), 0);
        CHECK.due("the largest name", x.remove(0, 65535), -1);
    }

    private static void promise10HowMany() {
        CHECK.sentence("10: Commits: how many blocks were changed");
        Tree x = new Tree(96);
        CHECK.due("of a new one", x.commit(), 0);
        x.make(0, 1, false);
        CHECK.due("the inode's, the map's and the root's", x.commit(), 3);
        CHECK.due("again", x.commit(), 0);
        x.find(0, 1);
        x.feed(8, 1);
        CHECK.due("what changes no block", x.commit(), 0);
        CHECK.due("the tape stays", x.look(5), 8);
        CHECK.due("write", x.write(1, 0), 8);
        CHECK.due("the inode's, the map's and the file's", x.commit(), 3);
        CHECK.due("drop then", x.drop(), 0);
        CHECK.due("no operation did it", x.look(4), 0);
    }

    private static void promise11HowMany() {
        CHECK.sentence("11: Drops: how many blocks were changed");
        Tree x = new Tree(96);
        CHECK.due("of a new one", x.drop(), 0);
        x.make(0, 1, false);
        CHECK.due("the inode's, the map's and the root's", x.drop(), 3);
        CHECK.due("it is gone", x.find(0, 1), -1);
        CHECK.due("again", x.drop(), 0);
        x.make(0, 1, false);
        x.commit();
        x.feed(8, 1);
        x.write(1, 0);
        x.remove(0, 1);
        CHECK.due("the inode's and the root's", x.drop(), 2);
        CHECK.due("it is there, as it was committed", x.node(1, 0) * 100 + x.node(1, 1), 100);
        CHECK.due("commit then", x.commit(), 0);
    }

    /** Files 1 and 2, which take blocks by turns: each has eight extents of one block, from 60 and 61 on. */
    private static Tree eightExtents() {
        Tree x = new Tree(96);
        x.make(0, 1, false);
        x.make(0, 2, false);
        for (int i = 1; i <= 8; i++) {
            x.cut(1, 64 * i);
            x.cut(2, 64 * i);
        }
        return x;
    }

    private static void promise12Whats() {
        CHECK.sentence("12: 0 its kind, 1 its size, 2 how many extents; 3 + 2 * k the first block, 4 + 2 * k how many");
        Tree x = eightExtents();
        x.cut(2, 600);
        for (int inode = 1; inode <= 2; inode++) {
            CHECK.due("kind", x.node(inode, 0), 1);
            CHECK.due("size", x.node(inode, 1), inode == 1 ? 512 : 600);
            CHECK.due("extents", x.node(inode, 2), 8);
            for (int k = 0; k < 8; k++) {
                CHECK.due("first block of " + k, x.node(inode, 3 + 2 * k), 59 + inode + 2 * k);
                CHECK.due("how many of " + k, x.node(inode, 4 + 2 * k), inode == 2 && k == 7 ? 3 : 1);
            }
        }
        for (int what = 0; what <= 2; what++) {
            CHECK.due("of a free one", x.node(3, what), 0);
            CHECK.due("of the last one", x.node(63, what), 0);
        }
        CHECK.due("the root's kind", x.node(0, 0), 2);
        CHECK.due("the root's size", x.node(0, 1), 64);
    }

    private static void promise12NoSuchExtentOrWhat() {
        CHECK.sentence("12: NoSuchElementException when there is no such extent or what");
        Tree x = eightExtents();
        for (int what : new int[] {-1, -2, 19, 20, 32, 256, MOST, MOST - 1, LEAST, LEAST + 3}) {
            CHECK.dueThrow("with eight extents: " + what, NONE, () -> x.node(1, what));
            CHECK.dueThrow("with one: " + what, NONE, () -> x.node(0, what));
            CHECK.dueThrow("of a free one: " + what, NONE, () -> x.node(9, what));
        }
        for (int extents = 7; extents >= 0; extents--) {
            x.cut(1, 64 * extents);
            CHECK.due("extents", x.node(1, 2), extents);
            if (extents > 0) {
                CHECK.due("the last one", x.node(1, 2 + 2 * extents), 1);
            }
            int behind = 3 + 2 * extents;
            CHECK.dueThrow("the first block behind " + extents, NONE, () -> x.node(1, behind));
            CHECK.dueThrow("how many behind " + extents, NONE, () -> x.node(1, behind + 1));
        }
        CHECK.dueThrow("of a free one: 3", NONE, () -> x.node(9, 3));
        CHECK.dueThrow("of a new root: 3", NONE, () -> new Tree(96).node(0, 3));
    }

    private static void promise12Throws() {
        CHECK.sentence("12: Throws IllegalArgumentException when inode is not 0 .. 63");
        Tree x = eightExtents();
        for (int inode : WRONG_INODES) {
            for (int what : new int[] {0, 2, 3, -1, 19}) {
                CHECK.dueThrow("node(" + inode + ", " + what + ")", WRONG, () -> x.node(inode, what));
            }
        }
    }

    private static void promise13BlocksAndBytes() {
        CHECK.sentence("13: Byte k of a block");
        for (int blocks : new int[] {96, 97, 512, 768}) {
            Tree x = new Tree(blocks);
            Check.file(x, 1, (blocks - 60) * 64);
            x.feed(8, 0x8070605040302010L);
            x.write(1, (blocks - 60) * 64 - 8);
            for (int k = 0; k < 64; k++) {
                CHECK.due("the last block, byte " + k, x.at(blocks - 1, k, false), k < 56 ? 0 : 0x10 * (k - 55));
            }
            CHECK.due("the first byte of all", x.at(0, 0, false) + x.at(0, 0, true), 0);
            CHECK.due("the last one as committed", x.at(blocks - 1, 63, true), 0);
            x.commit();
            CHECK.due("the last one then", x.at(blocks - 1, 63, true), 0x80);
        }
    }

    private static void promise13NowAndCommitted() {
        CHECK.sentence("13: as it is now, or as it is committed");
        Tree x = new Tree(96);
        x.make(0, 0x0201, false);
        CHECK.due("now", x.at(59, 1, false), 2);
        CHECK.due("committed", x.at(59, 1, true), 0);
        x.commit();
        CHECK.due("committed then", x.at(59, 1, true), 2);
        x.remove(0, 0x0201);
        CHECK.due("removed: now", x.at(59, 1, false), 0);
        CHECK.due("removed: committed", x.at(59, 1, true), 2);
        x.drop();
        CHECK.due("dropped: now", x.at(59, 1, false), 2);
    }

    private static void promise13Throws() {
        CHECK.sentence("13: Throws IllegalArgumentException when there is no such block or byte");
        for (int blocks : new int[] {96, 97, 767, 768}) {
            Tree x = new Tree(blocks);
            for (int block : new int[] {-1, -768, blocks, blocks + 1, 768, 1024, MOST, MOST / 64 + 1, LEAST}) {
                CHECK.dueThrow("of " + blocks + ": block " + block, WRONG, () -> x.at(block, 0, false));
                CHECK.dueThrow("of " + blocks + ": committed block " + block, WRONG, () -> x.at(block, 63, true));
            }
            for (int k : new int[] {-1, -64, 64, 65, 128, MOST, LEAST}) {
                for (int block : new int[] {0, 1, 57, blocks - 1, -1, blocks}) {
                    CHECK.dueThrow("byte " + k + " of block " + block, WRONG, () -> x.at(block, k, false));
                    CHECK.dueThrow("committed byte " + k + " of block " + block, WRONG, () -> x.at(block, k, true));
                }
            }
            CHECK.due("the last", x.at(blocks - 1, 63, false), 0);
        }
    }

    /** File 1, committed, with blocks 60 .. 87; then so many of its blocks are changed, from the last one on. */
    private static Tree changedBlocks(int count) {
        Tree x = new Tree(96);
        Check.file(x, 1, 28 * 64);
        x.commit();
        for (int i = 0; i < count; i++) {
            x.feed(1, 1);
            x.write(1, 64 * (27 - i));
        }
        return x;
    }

    private static void promise14Rises() {
        CHECK.sentence("14: Changed block i, by rising numbers");
        for (int count : new int[] {1, 2, 24}) {
            Tree x = changedBlocks(count);
            for (int i = 0; i < count; i++) {
                CHECK.due("changed(" + i + ") of " + count, x.changed(i), 88 - count + i);
            }
        }
        Tree x = new Tree(768);
        Check.file(x, 1, 708 * 64);
        CHECK.due("commit", x.commit(), 4);
        x.make(0, 2, true);
        x.feed(1, 1);
        x.write(1, 708 * 64 - 1);
        x.feed(1, 1);
        x.write(1, 0);
        int[] due = {26, 59, 60, 767};
        for (int i = 0; i < due.length; i++) {
            CHECK.due("up to the last block: changed(" + i + ")", x.changed(i), due[i]);
        }
    }

    private static void promise14NoSuch() {
        CHECK.sentence("14: Throws NoSuchElementException when there is none");
        for (int count : new int[] {0, 1, 23, 24}) {
            Tree x = changedBlocks(count);
            for (int i : new int[] {-1, count, count + 1, 25, 60, 96, 768, MOST, LEAST}) {
                CHECK.dueThrow("changed(" + i + ") of " + count, NONE, () -> x.changed(i));
            }
            x.commit();
            CHECK.dueThrow("changed(0) after commit", NONE, () -> x.changed(0));
            x.make(0, 2, false);
            x.drop();
            CHECK.dueThrow("changed(0) after drop", NONE, () -> x.changed(0));
        }
        CHECK.dueThrow("changed(0) of a new one", NONE, () -> new Tree(96).changed(0));
    }

    private static void dueLooks(String told, Tree x, int... due) {
        for (int what = 0; what < due.length; what++) {
            CHECK.due(told + ": look(" + what + ")", x.look(what), due[what]);
        }
    }

    private static void promise15AtTheirEnds() {
        CHECK.sentence("15: 0 blocks, 1 free ones, 2 inodes that are free, 3 changed, 4 commits, 5 tape, 6 directories");
        dueLooks("new", new Tree(96), 96, 37, 63, 0, 0, 0, 1);
        dueLooks("the largest", new Tree(768), 768, 709, 63, 0, 0, 0, 1);
        Tree x = new Tree(96);
        for (int i = 1; i <= 63; i++) {
            x.make(0, i, true);
            x.commit();
        }
        Check.feed(x, 512, 1);
        dueLooks("all directories, and a full tape", x, 96, 33, 0, 0, 0, 512, 64);
        CHECK.due("remove", x.remove(0, 63), 0);
        dueLooks("one removed", x, 96, 33, 1, 2, 0, 512, 63);
        x.make(0, 63, false);
        dueLooks("a file instead", x, 96, 33, 0, 1, 0, 512, 63);
        Tree y = new Tree(96);
        Check.file(y, 1, 36 * 64);
        dueLooks("no block is free", y, 96, 0, 62, 3, 0, 0, 1);
        y.drop();
        dueLooks("dropped", y, 96, 37, 63, 0, 0, 0, 1);
    }

    private static void promise15CommitsFirst() {
        CHECK.sentence("15: 4 commits that operations made first");
        Tree x = changedBlocks(24);
        dueLooks("24 changed", x, 96, 8, 62, 24, 0);
        x.commit();
        CHECK.due("those of commit are none", x.look(4), 0);
        for (int i = 0; i < 28; i++) {
            x.feed(1, 2);
            x.write(1, 64 * i);
            CHECK.due("after " + (i + 1) + " changes", x.look(4), i < 24 ? 0 : 1);
        }
        for (int i = 0; i < 28; i++) {
            x.feed(1, 3);
            x.write(1, 64 * i);
            CHECK.due("after " + (i + 29) + " changes", x.look(4), i < 20 ? 1 : 2);
        }
        CHECK.due("changed", x.look(3), 8);
        CHECK.due("drop", x.drop(), 8);
        CHECK.due("after drop", x.look(4), 2);
    }

    private static void promise15Throws() {
        CHECK.sentence("15: Throws NoSuchElementException for another what");
        Tree x = newTree();
        for (int what : new int[] {-1, -7, 7, 8, 256, MOST, LEAST}) {
            CHECK.dueThrow("look(" + what + ")", NONE, () -> x.look(what));
        }
    }
}
