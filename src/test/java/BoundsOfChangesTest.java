import java.util.NoSuchElementException;
import java.util.function.Consumer;

/** The sentences of the document's terms that name a bound: entries, changed and committed blocks, operations. */
public final class BoundsOfChangesTest {
    private static final Check CHECK = new Check();

    public static void main(String[] args) {
        bytesOfAnEntry();
        bytesOfAnEmptyEntry();
        sizeIsAMultipleOf64();
        intoTheFirstEmptyOne();
        growsByABlock();
        rootAtFirst();
        justOneEntry();
        changedOnesAreTaken();
        changedOnesOfTheMap();
        changedOnesDiffer();
        commitOfNothingAndOf24();
        dropOfNothingAndOf24();
        freeBlocksHaveWhatIsCommitted();
        allOrNothing();
        refusedAgain();
        refusedChangesNothing();
        moreThan24();
        moreThan24ByMoreThanOne();
        whatGivesBackLeavesFewer();
        commitsWhatWasBefore();
        refusedDoesNotCommitFirst();
        firstExceptionIsThrown();
        throwingChangesNothing();
        throwingLeavesTheTape();
        memoryIsItsOwn();
        CHECK.end();
    }

    private static void bytesOfAnEntry() {
        CHECK.sentence("a NAME (1 .. 65535, two bytes, lowest first), an inode (one byte), 0");
        int[] names = {1, 255, 256, 257, 65279, 65280, 65534, 65535};
        Tree x = new Tree(96);
        for (int i = 0; i < names.length; i++) {
            CHECK.due("make " + names[i], x.make(0, names[i], false), i + 1);
            CHECK.dueBytes("name " + names[i], x, 59, 4 * i, names[i] % 256, names[i] / 256, i + 1, 0);
        }
        for (int i = 0; i < names.length; i++) {
            CHECK.due("find " + names[i], x.find(0, names[i]), i + 1);
        }
        Tree y = new Tree(96);
        for (int i = 1; i <= 63; i++) {
            y.make(0, i, true);
        }
        CHECK.dueBytes("inode 63", y, 62, 56, 63, 0, 63, 0);
        CHECK.dueBytes("the last entry of four blocks", y, 62, 60, 0, 0, 0, 0);
    }

    private static void bytesOfAnEmptyEntry() {
        CHECK.sentence("All bytes of an empty one are 0");
        Tree x = new Tree(96);
        x.make(0, 65535, false);
        x.make(0, 65534, false);
        x.make(0, 65533, true);
        x.remove(0, 65535);
        CHECK.dueBytes("removed", x, 59, 0, 0, 0, 0, 0, 254, 255, 2, 0);
        x.move(0, 65534, 3, 7);
        CHECK.dueBytes("moved", x, 59, 0, 0, 0, 0, 0, 0, 0, 0, 0, 253, 255, 3, 0);
        x.make(0, 9, false);
        x.move(3, 7, 0, 9);
        CHECK.dueBytes("moved onto another", x, 60, 0, 0, 0, 0, 0);
    }

    private static void sizeIsAMultipleOf64() {
        CHECK.sentence("Its size is a multiple of 64");
        Tree x = new Tree(96);
        for (int i = 1; i <= 63; i++) {
            x.make(0, i, false);
            CHECK.due("size with " + i + " entries", x.node(0, 1), (i + 15) / 16 * 64);
        }
        for (int i = 1; i <= 63; i++) {
            x.remove(0, i);
        }
        CHECK.due("size when all are removed", x.node(0, 1), 256);
        CHECK.due("blocks free then", x.look(1), 33);
        x.make(0, 99, false);
        CHECK.due("size with one again", x.node(0, 1), 256);
    }

    private static void intoTheFirstEmptyOne() {
        CHECK.sentence("A new entry comes into the first empty one");
        Tree x = new Tree(96);
        for (int i = 1; i <= 18; i++) {
            x.make(0, i, false);
        }
        x.remove(0, 17);
        x.remove(0, 16);
        x.remove(0, 1);
        int[] places = {0, 60, 64, 72, 76};
        for (int i = 0; i < places.length; i++) {
            CHECK.due("make", x.make(0, 100 + i, false) > 0 ? 1 : 0, 1);
            CHECK.due("its place", x.read(0, places[i]) & 0xffff, 100 + i);
        }
        CHECK.due("the size stays", x.node(0, 1), 128);
    }

    private static void growsByABlock() {
        CHECK.sentence("without one the directory grows by a block");
        Tree x = new Tree(96);
        x.make(0, 1, true);
        for (int i = 1; i <= 16; i++) {
            x.make(1, i, false);
        }
        CHECK.dueInode("16 entries", x, 1, 2, 1, 64, 0, 60, 0, 1);
        x.make(0, 2, false);
        x.cut(18, 64);
        x.make(1, 17, false);
        CHECK.dueInode("17 entries", x, 1, 2, 2, 128, 0, 60, 0, 1, 62, 0, 1);
        CHECK.due("entry 16", x.read(1, 64), 17 | 19 << 16);
        CHECK.due("blocks free", x.look(1), 33);
    }

    private static void rootAtFirst() {
        CHECK.sentence("Inode 0 is the ROOT, a directory, of size 0 at first. It has no entry");
        Tree x = new Tree(96);
        CHECK.dueInode("the root", x, 0, 2);
        CHECK.due("size", x.node(0, 1), 0);
        CHECK.due("no block is its", x.look(1), 37);
        CHECK.dueThrow("read of it", NoSuchElementException.class, () -> x.read(0, 0));
        CHECK.due("no entry", x.find(0, 1), -1);
        CHECK.due("none that could be removed", x.remove(0, 1), -1);
        CHECK.due("none that could be moved", x.move(0, 1, 0, 2), -1);
        CHECK.due("the least inode is never free", x.make(0, 1, true), 1);
    }

    private static void justOneEntry() {
        CHECK.sentence("every other inode that is not free has just one");
        Tree x = new Tree(96);
        x.make(0, 1, true);
        x.make(0, 2, true);
        for (int i = 3; i <= 10; i++) {
            x.make(i % 3, i, i < 6);
        }
        x.move(0, 3, 1, 30);
        x.move(1, 4, 0, 40);
        x.move(2, 5, 2, 50);
        x.move(0, 6, 1, 7);
        x.move(2, 8, 0, 9);
        x.remove(1, 10);
        x.move(0, 2, 1, 4);
        int[] entries = new int[64];
        for (int directory = 0; directory < 64; directory++) {
            int size = x.node(directory, 0) == 2 ? x.node(directory, 1) : 0;
            for (int offset = 0; offset < size; offset += 8) {
                long two = x.read(directory, offset);
                entries[(int) (two >> 16) & 255]++;
                entries[(int) (two >> 48) & 255]++;
            }
        }
        for (int inode = 1; inode < 64; inode++) {
            CHECK.due("entries of inode " + inode, entries[inode], x.node(inode, 0) == 0 ? 0 : 1);
        }
        CHECK.due("inodes that are free", x.look(2), 56);
    }

    /** File 1, committed, with blocks 60 .. 87, whose first bytes are 255; file 2 and directory 3, empty. */
    private static void committedFile(Tree x) {
        Check.file(x, 1, 28 * 64);
        x.make(0, 2, false);
        x.make(0, 3, true);
        for (int i = 0; i < 28; i++) {
            if (i % 14 == 0) {
                x.commit();
            }
            x.feed(1, 255);
            x.write(1, 64 * i);
        }
        x.commit();
    }

    /** The committed file; then so many of its blocks are changed, the first ones, to 1, 2, 3 and so on. */
    private static Consumer<Tree> changedBlocks(int count) {
        return x -> {
            committedFile(x);
            for (int i = 0; i < count; i++) {
                x.feed(1, i + 1);
                x.write(1, 64 * i);
            }
        };
    }

    private static Tree withChanged(int count) {
        Tree x = new Tree(96);
        changedBlocks(count).accept(x);
        CHECK.due("changed", x.look(3), count);
        CHECK.due("commits first", x.look(4), 0);
        return x;
    }

    private static void changedOnesAreTaken() {
        CHECK.sentence("A block is CHANGED if it is not below 25, taken, and its bytes differ");
        Tree x = withChanged(3);
        CHECK.due("the first", x.changed(0), 60);
        x.cut(1, 128);
        CHECK.due("without the third, which is given back", x.look(3), 4);
        int[] due = {25, 57, 60, 61};
        for (int i = 0; i < due.length; i++) {
            CHECK.due("changed(" + i + ")", x.changed(i), due[i]);
        }
        x.remove(0, 1);
        CHECK.due("without all of them", x.look(3), 3);
        CHECK.due("the inode's", x.changed(0), 25);
        CHECK.due("the map's", x.changed(1), 57);
        CHECK.due("the root's", x.changed(2), 59);
    }

    private static void changedOnesOfTheMap() {
        CHECK.sentence("A block is CHANGED: the map's block 57 up to block 511, 58 from block 512 on");
        for (int block = 510; block <= 513; block++) {
            Tree x = new Tree(768);
            int size = (block - 60) * 64;
            int map = block < 512 ? 57 : 58;
            Check.file(x, 1, size);
            x.commit();
            x.cut(1, size + 1);
            CHECK.due("two are changed", x.look(3), 2);
            CHECK.due("the map's for " + block, x.changed(1), map);
            CHECK.due("drop", x.drop(), 2);
            CHECK.due("its bit", x.at(map, block / 8 % 64, false) >> block % 8, 0);
            x.cut(1, size + 1);
            x.commit();
            CHECK.due("its bit as committed", x.at(map, block / 8 % 64, true) >> block % 8, 1);
        }
    }

    private static void changedOnesDiffer() {
        CHECK.sentence("its bytes differ from the committed ones");
        Tree x = withChanged(0);
        x.feed(1, 255);
        x.write(1, 0);
        CHECK.due("the same byte written", x.look(3), 0);
        x.feed(1, 254);
        x.write(1, 0);
        CHECK.due("another one", x.look(3), 1);
        x.feed(1, 255);
        x.write(1, 0);
        CHECK.due("the same again", x.look(3), 0);
        x.feed(1, 1);
        x.write(1, 63);
        CHECK.due("the last byte of a block", x.look(3), 1);
        x.feed(1, 0);
        x.write(1, 63);
        x.cut(2, 64);
        CHECK.due("a block with the 0s that it has committed", x.look(3), 2);
        x.cut(2, 0);
        CHECK.due("and without it", x.look(3), 0);
        x.make(3, 1, false);
        x.remove(3, 1);
        CHECK.due("a directory that has grown", x.look(3), 2);
    }

    private static void commitOfNothingAndOf24() {
        CHECK.sentence("To COMMIT: the bytes of all changed blocks, by rising numbers, are committed");
        Tree x = withChanged(24);
        CHECK.due("before", x.at(83, 0, true), 255);
        CHECK.due("commit 24", x.commit(), 24);
        for (int i = 0; i < 24; i++) {
            CHECK.due("committed " + i, x.at(60 + i, 0, true), i + 1);
        }
        CHECK.due("the one behind them", x.at(84, 0, true), 255);
        CHECK.due("commit nothing", x.commit(), 0);
        CHECK.due("nothing is changed", x.look(3), 0);
        CHECK.due("drop nothing", x.drop(), 0);
        CHECK.due("all stays", x.read(1, 23 * 64), 24);
    }

    private static void dropOfNothingAndOf24() {
        CHECK.sentence("To DROP: all is as it is committed");
        CHECK.changesNothing("drop of 24", 96, BoundsOfChangesTest::committedFile, x -> {
            for (int i = 0; i < 24; i++) {
                x.feed(1, i + 1);
                x.write(1, 64 * i);
            }
            CHECK.due("drop 24", x.drop(), 24);
        });
        CHECK.changesNothing("drop of operations of all kinds", 96, BoundsOfChangesTest::committedFile, x -> {
            x.make(3, 1, false);
            x.cut(1, 0);
            x.feed(8, -1);
            x.write(4, 0);
            x.move(0, 1, 3, 2);
            x.remove(0, 2);
            x.cut(1, 500);
            CHECK.due("drop", x.drop(), 15);
        });
        CHECK.changesNothing("drop of nothing", 96, BoundsOfChangesTest::committedFile, Tree::drop);
    }

    private static void freeBlocksHaveWhatIsCommitted() {
        CHECK.sentence("What a free block has, is what it has committed");
        Tree x = withChanged(3);
        CHECK.due("taken", x.at(61, 0, false), 2);
        x.cut(1, 64);
        CHECK.due("given back", x.at(61, 0, false), 255);
        CHECK.due("as committed", x.at(61, 0, true), 255);
        x.commit();
        CHECK.due("free and committed: now", x.at(61, 0, false), 255);
        CHECK.due("free and committed", x.at(61, 0, true), 255);
        x.cut(1, 65);
        CHECK.due("taken again", x.at(61, 0, false), 0);
        x.commit();
        CHECK.due("its 0s are committed", x.at(61, 0, true), 0);
        x.cut(1, 0);
        x.drop();
        CHECK.due("drop takes it again", x.node(1, 4), 2);
        Tree y = new Tree(96);
        y.make(0, 1, false);
        Check.feed(y, 64, 1);
        y.write(1, 0);
        y.commit();
        Check.feed(y, 64, 101);
        y.write(1, 0);
        CHECK.due("remove", y.remove(0, 1), 0);
        for (int k = 0; k < 64; k++) {
            CHECK.due("byte " + k + " of all", y.at(60, k, false), k + 1);
            CHECK.due("byte " + k + " of all, as committed", y.at(60, k, true), k + 1);
        }
    }

    /** File 1 with all blocks but one; file 2 of 60 bytes in the last one; directory 3 without a block. */
    private static void fullDisk(Tree x) {
        Check.file(x, 1, 34 * 64);
        x.make(0, 2, false);
        Check.feed(x, 60, 1);
        x.write(2, 0);
        x.make(0, 3, true);
        x.commit();
        x.feed(1, 9);
        x.write(1, 64);
    }

    private static void allOrNothing() {
        CHECK.sentence("OPERATIONS change all or nothing");
        Consumer<Tree> oneFree = BoundsOfChangesTest::fullDisk;
        CHECK.changesNothing("write that needs two blocks of one", 96, oneFree, x -> {
            Check.feed(x, 119, 50);
            CHECK.due("write", x.write(2, 10), -4);
        });
        CHECK.changesNothing("cut that needs two blocks of one", 96, oneFree,
            x -> CHECK.due("cut", x.cut(2, 129), -4));
        Consumer<Tree> noneFree = oneFree.andThen(x -> CHECK.due("the last block", x.cut(2, 128), 128));
        CHECK.changesNothing("make without a block", 96, noneFree,
            x -> CHECK.due("make", x.make(3, 1, false), -4));
        CHECK.changesNothing("move without a block", 96, noneFree,
            x -> CHECK.due("move", x.move(0, 1, 3, 1), -4));
        CHECK.changesNothing("write without a block", 96, noneFree, x -> {
            Check.feed(x, 2, 50);
            CHECK.due("write", x.write(2, 127), -4);
        });
        CHECK.changesNothing("cut whose second block would be a ninth extent", 96,
            BoundsOfChangesTest::oneForAnEighthExtent, x -> {
                CHECK.due("cut", x.cut(1, 513), -4);
                CHECK.due("cut", x.cut(1, 448 + 1024), -4);
            });
        CHECK.changesNothing("write whose second block would be a ninth extent", 96,
            BoundsOfChangesTest::oneForAnEighthExtent, x -> {
                Check.feed(x, 66, 1);
                CHECK.due("write", x.write(1, 447), -4);
            });
    }

    private static void refusedAgain() {
        CHECK.sentence("OPERATIONS change all or nothing: refused, then others, then refused again");
        Consumer<Tree> refused = x -> {
            Check.feed(x, 119, 50);
            CHECK.due("write", x.write(2, 10), -4);
            CHECK.due("move", x.move(0, 1, 3, 1), -4);
        };
        Consumer<Tree> full = x -> {
            fullDisk(x);
            x.cut(2, 128);
            x.commit();
            x.feed(8, -1);
            x.write(1, 64);
            x.move(0, 2, 0, 7);
        };
        CHECK.changesNothing("refused after drop", 96, full.andThen(refused).andThen(Tree::drop), refused);
        CHECK.changesNothing("refused after commit", 96, full.andThen(refused).andThen(Tree::commit), refused);
        Tree x = new Tree(96);
        changedBlocks(24).accept(x);
        CHECK.due("cut", x.cut(1, 28 * 64 + 513), -4);
        CHECK.due("drop", x.drop(), 24);
        for (int i = 0; i < 24; i++) {
            x.feed(1, 50 + i);
            x.write(1, 64 * i);
        }
        CHECK.due("cut that commits first", x.cut(1, 28 * 64 + 512), 28 * 64 + 512);
        CHECK.due("the inode's and the map's are changed", x.look(4) * 100 + x.look(3), 102);
        CHECK.due("drop it", x.drop(), 2);
        CHECK.due("its size", x.node(1, 1), 28 * 64);
        CHECK.due("what was before it", x.read(1, 23 * 64), 73);
    }

    /** File 1 with seven extents; of the free blocks the least one, 74, has a taken one behind it. */
    private static void oneForAnEighthExtent(Tree x) {
        x.make(0, 1, false);
        x.make(0, 2, false);
        for (int i = 1; i <= 7; i++) {
            x.cut(1, 64 * i);
            x.cut(2, 64 * i);
        }
        x.make(0, 3, false);
        x.make(0, 4, false);
        x.cut(3, 64);
        x.cut(4, 64);
        x.cut(3, 0);
        CHECK.due("extents", x.node(1, 2), 7);
        CHECK.due("the eighth", x.cut(1, 512), 512);
        CHECK.due("the eighth given back", x.cut(1, 448), 448);
    }

    private static void refusedChangesNothing() {
        CHECK.sentence("ANSWERS below 0");
        CHECK.changesNothing("all refused operations", 96, changedBlocks(5), x -> {
            CHECK.due("make -1", x.make(9, 1, true), -1);
            CHECK.due("make -5", x.make(1, 1, true), -5);
            CHECK.due("make -2", x.make(0, 1, true), -2);
            CHECK.due("find -1", x.find(9, 1), -1);
            CHECK.due("find -5", x.find(1, 1), -5);
            CHECK.due("find -1 for the entry", x.find(0, 9), -1);
            CHECK.due("write -1", x.write(9, 0), -1);
            CHECK.due("write -5", x.write(3, 0), -5);
            CHECK.due("write -8", x.write(2, 1), -8);
            CHECK.due("cut -1", x.cut(9, 0), -1);
            CHECK.due("cut -5", x.cut(3, 0), -5);
            CHECK.due("cut -8", x.cut(2, 1025), -8);
            CHECK.due("cut -4", x.cut(1, 28 * 64 + 513), -4);
            CHECK.due("move -1", x.move(9, 1, 0, 1), -1);
            CHECK.due("move -5", x.move(1, 1, 0, 1), -5);
            CHECK.due("move -1 for the entry", x.move(0, 9, 0, 1), -1);
            CHECK.due("move -1 for the other", x.move(0, 1, 9, 1), -1);
            CHECK.due("move -5 for the other", x.move(0, 1, 1, 1), -5);
            CHECK.due("move -5 for both", x.move(0, 1, 0, 3), -5);
            CHECK.due("move -7", x.move(0, 3, 3, 1), -7);
            CHECK.due("move to the same", x.move(0, 1, 0, 1), 0);
            CHECK.due("remove -1", x.remove(9, 1), -1);
            CHECK.due("remove -5", x.remove(1, 1), -5);
            CHECK.due("remove -1 for the entry", x.remove(0, 9), -1);
        });
        CHECK.changesNothing("-6", 96, changedBlocks(5).andThen(x -> {
            x.make(3, 1, false);
            x.make(0, 4, true);
        }), x -> {
            CHECK.due("remove -6", x.remove(0, 3), -6);
            CHECK.due("move -6", x.move(0, 4, 0, 3), -6);
        });
        CHECK.changesNothing("-3", 96, x -> {
            for (int i = 1; i <= 63; i++) {
                x.make(0, i, i == 1);
            }
        }, x -> CHECK.due("make -3", x.make(1, 1, false), -3));
    }

    /** An operation that leaves so many blocks more changed than there were: at 24 in all, and at 25. */
    private static void dueAt24And25(String told, int more, Consumer<Tree> operation) {
        Tree x = withChanged(24 - more);
        operation.accept(x);
        CHECK.due(told + ": 24 are changed then", x.look(3), 24);
        CHECK.due(told + ": it committed nothing first", x.look(4), 0);
        CHECK.due(told + ": drop", x.drop(), 24);
        CHECK.due(told + ": nothing was committed", x.read(1, 0) & 255, 255);

        Tree y = withChanged(25 - more);
        operation.accept(y);
        CHECK.due(told + ": it committed first", y.look(4), 1);
        CHECK.due(told + ": just its own are changed then", y.look(3), more);
        CHECK.due(told + ": the first one is committed", y.at(60, 0, true), 1);
        CHECK.due(told + ": the last one is committed", y.at(84 - more, 0, true), 25 - more);
        CHECK.due(told + ": drop", y.drop(), more);
        CHECK.due(told + ": what was before stays", y.read(1, 64 * (24 - more)) & 255, 25 - more);
        CHECK.due(told + ": find what was before", y.find(0, 1) * 100 + y.find(0, 2) * 10 + y.find(0, 3), 123);
        CHECK.due(told + ": the count stays", y.look(4), 1);
    }

    private static void moreThan24() {
        CHECK.sentence("One that would leave more than 24 blocks changed commits first what was there before it");
        dueAt24And25("write of a byte", 1, x -> {
            x.feed(1, 77);
            CHECK.due("write", x.write(1, 64 * 26), 28 * 64);
        });
        dueAt24And25("move to another name", 1, x -> CHECK.due("move", x.move(0, 1, 0, 9), 0));
        dueAt24And25("cut within a block", 1, x -> CHECK.due("cut", x.cut(1, 64 * 28 - 1), 64 * 28 - 1));
        dueAt24And25("cut that gives a block back", 2, x -> CHECK.due("cut", x.cut(1, 64 * 27), 64 * 27));
        dueAt24And25("cut that takes a block", 2, x -> CHECK.due("cut", x.cut(2, 1), 1));
        dueAt24And25("make", 2, x -> CHECK.due("make", x.make(0, 9, false), 4));
        dueAt24And25("remove", 2, x -> CHECK.due("remove", x.remove(0, 2), 0));
    }

    private static void moreThan24ByMoreThanOne() {
        CHECK.sentence("more than 24 blocks changed, by an operation that changes several");
        dueAt24And25("write that takes a block", 3, x -> {
            x.feed(1, 77);
            CHECK.due("write", x.write(2, 0), 1);
        });
        dueAt24And25("make in a directory that grows", 4, x -> CHECK.due("make", x.make(3, 1, true), 4));
        dueAt24And25("move into a directory that grows", 4, x -> CHECK.due("move", x.move(0, 2, 3, 2), 0));
        dueAt24And25("write over three blocks", 3, x -> {
            Check.feedFull(x, 80);
            CHECK.due("write", x.write(1, 64 * 24 + 60), 28 * 64);
        });
    }

    private static void whatGivesBackLeavesFewer() {
        CHECK.sentence("would leave more than 24 blocks changed: those given back are not changed");
        Tree x = withChanged(24);
        CHECK.due("remove", x.remove(0, 1), 0);
        CHECK.due("left", x.look(3), 3);
        CHECK.due("no commit first", x.look(4), 0);
        CHECK.due("as committed", x.at(60, 0, false), 255);
        Tree y = withChanged(24);
        CHECK.due("cut", y.cut(1, 22 * 64), 22 * 64);
        CHECK.due("left, with the inode's and the map's", y.look(3), 24);
        CHECK.due("no commit first", y.look(4), 0);
        Tree z = withChanged(24);
        CHECK.due("cut", z.cut(1, 23 * 64), 23 * 64);
        CHECK.due("commit first", z.look(4), 1);
        CHECK.due("left of 25", z.look(3), 2);
        CHECK.due("the one given back has what was committed first", z.at(83, 0, false), 24);
        CHECK.due("and has it committed", z.at(83, 0, true), 24);
    }

    private static void commitsWhatWasBefore() {
        CHECK.sentence("commits first what was there before it");
        Tree x = withChanged(24);
        Check.feedFull(x, 72);
        CHECK.due("write over a changed one and two others", x.write(1, 64 * 23 + 62), 28 * 64);
        CHECK.due("commits first", x.look(4), 1);
        CHECK.due("changed", x.look(3), 3);
        CHECK.due("the changed one as it was before", x.at(83, 0, true), 24);
        CHECK.due("without what is written", x.at(83, 62, true) + x.at(83, 63, true) + x.at(84, 1, true), 0);
        CHECK.due("what is written", x.at(83, 62, false) + x.at(84, 1, false) + x.at(85, 5, false), 765);
        for (int i = 0; i < 22; i++) {
            x.feed(1, 99);
            x.write(1, 64 * i);
        }
        CHECK.due("a second commit first", x.look(4) * 100 + x.look(3), 201);
        CHECK.due("what was before it", x.at(85, 5, true), 255);
        CHECK.due("not the last one", x.at(81, 0, true), 22);
    }

    private static void refusedDoesNotCommitFirst() {
        CHECK.sentence("OPERATIONS change all or nothing: a refused one commits nothing first");
        CHECK.changesNothing("refused with 24 changed", 96, changedBlocks(24), x -> {
            CHECK.due("cut", x.cut(1, 28 * 64 + 513), -4);
            CHECK.due("make", x.make(0, 1, false), -2);
            CHECK.due("move", x.move(0, 3, 3, 1), -7);
            CHECK.due("move to the same", x.move(0, 1, 0, 1), 0);
            CHECK.due("remove", x.remove(0, 9), -1);
            Check.feed(x, 5, 1);
            CHECK.due("write", x.write(2, 1), -8);
            CHECK.due("write of nothing", x.write(1, 0), 28 * 64);
            CHECK.due("cut to the size it has", x.cut(1, 28 * 64), 28 * 64);
        });
    }

    private static void firstExceptionIsThrown() {
        CHECK.sentence("Of several exceptions the first one told is thrown");
        Tree x = new Tree(96);
        Check.feed(x, 512, 0);
        for (int n : new int[] {0, 9, -1, Integer.MAX_VALUE, Integer.MIN_VALUE}) {
            CHECK.dueThrow("feed(" + n + ") at 512", IllegalArgumentException.class, () -> x.feed(n, 0));
        }
        for (int inode : new int[] {-1, 64, Integer.MAX_VALUE, Integer.MIN_VALUE}) {
            for (int other : new int[] {-1, 0, 64, 99}) {
                CHECK.dueThrow("read", IllegalArgumentException.class, () -> x.read(inode, other));
                CHECK.dueThrow("node", IllegalArgumentException.class, () -> x.node(inode, other));
            }
        }
    }

    private static void throwingChangesNothing() {
        CHECK.sentence("a call that throws changes nothing");
        Class<IllegalArgumentException> wrong = IllegalArgumentException.class;
        Class<NoSuchElementException> none = NoSuchElementException.class;
        CHECK.changesNothing("all calls that throw", 96, changedBlocks(24).andThen(x -> x.feed(5, 5)), x -> {
            CHECK.dueThrow("feed", wrong, () -> x.feed(0, 1));
            CHECK.dueThrow("feed", wrong, () -> x.feed(9, 1));
            CHECK.dueThrow("make", wrong, () -> x.make(0, 0, false));
            CHECK.dueThrow("make", wrong, () -> x.make(64, 1, false));
            CHECK.dueThrow("find", wrong, () -> x.find(0, 65536));
            CHECK.dueThrow("write", wrong, () -> x.write(64, 0));
            CHECK.dueThrow("write", wrong, () -> x.write(-1, 0));
            CHECK.dueThrow("cut", wrong, () -> x.cut(64, 0));
            CHECK.dueThrow("read", wrong, () -> x.read(64, 0));
            CHECK.dueThrow("read", none, () -> x.read(1, 28 * 64));
            CHECK.dueThrow("move", wrong, () -> x.move(0, 1, 64, 4));
            CHECK.dueThrow("move", wrong, () -> x.move(0, 1, 0, 65536));
            CHECK.dueThrow("remove", wrong, () -> x.remove(0, 65537));
            CHECK.dueThrow("node", wrong, () -> x.node(64, 0));
            CHECK.dueThrow("node", none, () -> x.node(1, 5));
            CHECK.dueThrow("at", wrong, () -> x.at(96, 0, false));
            CHECK.dueThrow("changed", none, () -> x.changed(24));
            CHECK.dueThrow("look", none, () -> x.look(7));
        });
    }

    private static void throwingLeavesTheTape() {
        CHECK.sentence("a call that throws changes nothing, the tape's bytes neither");
        Tree x = new Tree(96);
        x.make(0, 1, false);
        Check.feed(x, 505, 1);
        CHECK.dueThrow("feed too much", IllegalStateException.class, () -> x.feed(8, -1));
        CHECK.dueThrow("feed of nine", IllegalArgumentException.class, () -> x.feed(9, -1));
        CHECK.dueThrow("write", IllegalArgumentException.class, () -> x.write(64, 0));
        CHECK.due("feed", x.feed(1, 7), 506);
        CHECK.due("write", x.write(1, 0), 506);
        for (int offset = 0; offset < 505; offset += 9) {
            CHECK.due("byte " + offset, x.read(1, offset) & 255, (1 + offset) % 256);
        }
        CHECK.due("the last two", x.read(1, 504), 0x07f9);
    }

    private static void memoryIsItsOwn() {
        CHECK.sentence("All memory is the class's own");
        CHECK.changesNothing("calls of another object", 96, changedBlocks(24).andThen(x -> x.feed(5, 5)), x -> {
            Tree other = new Tree(96);
            CHECK.due("look(3) of another object", other.look(3), 0);
            CHECK.due("look(5) of another object", other.look(5), 0);
            CHECK.due("make", other.make(0, 9, true), 1);
            CHECK.due("make", other.make(1, 9, false), 2);
            Check.feedFull(other, 100);
            CHECK.due("write", other.write(2, 0), 100);
            CHECK.due("commit", other.commit(), 7);
            CHECK.due("move", other.move(1, 9, 0, 1), 0);
            CHECK.due("drop", other.drop(), 2);
            CHECK.due("find", other.find(1, 9), 2);
        });
    }
}
