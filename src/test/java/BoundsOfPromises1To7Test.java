import java.util.NoSuchElementException;

/** The sentences of promises 1 to 7 that name a bound: a new object, feed, make, find, write, cut, read. */
public final class BoundsOfPromises1To7Test {
    private static final Check CHECK = new Check();
    private static final Class<IllegalArgumentException> WRONG = IllegalArgumentException.class;
    private static final Class<IllegalStateException> FULL = IllegalStateException.class;
    private static final Class<NoSuchElementException> NONE = NoSuchElementException.class;
    private static final int LEAST = Integer.MIN_VALUE;
    private static final int MOST = Integer.MAX_VALUE;
    private static final int[] WRONG_INODES = {-1, 64, 65, 256, MOST, LEAST};
    private static final int[] WRONG_NAMES = {0, -1, 65536, 65537, 131072, MOST, LEAST};

    public static void main(String[] args) {
        promise1SoManyBlocks();
        promise1RootAndMapAreCommitted();
        promise2LowestBytes();
        promise2OneToEight();
        promise2AtMost512();
        promise3LeastFreeInode();
        promise3DirectoryFaults();
        promise3NameThere();
        promise3NoInode();
        promise3NoBlock();
        promise3FirstThatHolds();
        promise3Throws();
        promise4Answers();
        promise4Throws();
        promise5OffsetsWithin();
        promise5EmptyAndFullTape();
        promise5TapeIsUsedUp();
        promise5OutOfBounds();
        promise5NoBlock();
        promise5FirstThatHolds();
        promise5Throws();
        promise6Sizes();
        promise6GrowsWith0s();
        promise6OutOfBounds();
        promise6NoBlock();
        promise6FirstThatHolds();
        promise6Throws();
        promise7ZerosBehindTheEnd();
        promise7OverBlocksAndExtents();
        promise7NoByteThere();
        promise7Free();
        promise7Throws();
        CHECK.end();
    }

    private static void promise1SoManyBlocks() {
        CHECK.sentence("1: So many blocks (96 if it is not 96 .. 768)");
        int[][] wantedAndDue = {
            {96, 96}, {97, 97}, {767, 767}, {768, 768}, {95, 96}, {769, 96}, {0, 96}, {1, 96}, {-1, 96}, {-96, 96},
            {1024, 96}, {65536 + 100, 96}, {MOST, 96}, {LEAST, 96},
        };
        for (int[] pair : wantedAndDue) {
            Tree x = new Tree(pair[0]);
            int due = pair[1];
            CHECK.due("look(0) of " + pair[0], x.look(0), due);
            CHECK.due("look(1) of " + pair[0], x.look(1), due - 59);
            CHECK.due("the last block of " + pair[0], x.at(due - 1, 63, true), 0);
            CHECK.dueThrow("the one behind it", WRONG, () -> x.at(due, 0, true));
            Check.file(x, 1, (due - 60) * 64);
            CHECK.due("a file in all of them", x.node(1, 1), (due - 60) * 64);
            CHECK.due("none is free", x.look(1), 0);
        }
    }

    private static void promise1RootAndMapAreCommitted() {
        CHECK.sentence("1: the root, and the map, are committed");
        for (int blocks : new int[] {96, 512, 513, 768}) {
            Tree x = new Tree(blocks);
            CHECK.due("changed", x.look(3), 0);
            CHECK.dueThrow("changed(0)", NONE, () -> x.changed(0));
            CHECK.due("the root", x.at(25, 0, true), 2);
            for (int n = 0; n < 128; n++) {
                int due = n < 7 ? 255 : n == 7 ? 7 : 0;
                CHECK.due("byte " + n + " of the map", x.at(57 + n / 64, n % 64, true), due);
            }
            CHECK.due("drop", x.drop(), 0);
            CHECK.due("the root's kind", x.node(0, 0), 2);
            CHECK.due("blocks free", x.look(1), blocks - 59);
            x.make(0, 1, false);
            CHECK.due("drop of make", x.drop(), 3);
            CHECK.due("the root is empty again", x.node(0, 1), 0);
            CHECK.due("commit", x.commit(), 0);
        }
    }

    private static void promise2LowestBytes() {
        CHECK.sentence("2: The n lowest bytes of v, lowest first, come behind the tape: how many it has");
        for (int n = 1; n <= 8; n++) {
            Tree x = new Tree(96);
            x.make(0, 1, false);
            CHECK.due("feed(" + n + ")", x.feed(n, 0x8877665544332211L), n);
            CHECK.due("feed(1)", x.feed(1, -1), n + 1);
            CHECK.due("write", x.write(1, 0), n + 1);
            for (int i = 0; i < n; i++) {
                CHECK.due("byte " + i + " of " + n, x.at(60, i, false), 0x11 * (i + 1));
            }
            CHECK.due("the byte behind them", x.at(60, n, false), 255);
        }
        Tree x = new Tree(96);
        x.make(0, 1, false);
        x.feed(8, Long.MIN_VALUE);
        x.feed(8, Long.MAX_VALUE);
        x.write(1, 0);
        CHECK.due("the least number", x.read(1, 0), Long.MIN_VALUE);
        CHECK.due("the largest", x.read(1, 8), Long.MAX_VALUE);
    }

    private static void promise2OneToEight() {
        CHECK.sentence("2: Throws IllegalArgumentException when n is not 1 .. 8");
        Tree x = new Tree(96);
        for (int n : new int[] {0, 9, -1, -8, 10, 16, 512, MOST, LEAST}) {
            CHECK.dueThrow("feed(" + n + ")", WRONG, () -> x.feed(n, 1));
            CHECK.due("the tape", x.look(5), 0);
        }
        CHECK.due("feed(1)", x.feed(1, 1), 1);
        CHECK.due("feed(8)", x.feed(8, 1), 9);
    }

    private static void promise2AtMost512() {
        CHECK.sentence("2: IllegalStateException when it would have more than 512");
        for (int n = 1; n <= 8; n++) {
            int fits = n;
            Tree x = new Tree(96);
            x.make(0, 1, false);
            CHECK.due("none at first", x.look(5), 0);
            Check.feed(x, 512 - n, 1);
            for (int more = n + 1; more <= 8; more++) {
                int tooMany = more;
                CHECK.dueThrow("feed(" + more + ") at " + (512 - n), FULL, () -> x.feed(tooMany, -1));
            }
            CHECK.due("it has as many", x.look(5), 512 - n);
            CHECK.due("feed(" + n + ")", x.feed(n, 0), 512);
            CHECK.dueThrow("feed(" + n + ") at 512", FULL, () -> x.feed(fits, -1));
            CHECK.dueThrow("feed(1) at 512", FULL, () -> x.feed(1, -1));
            CHECK.dueThrow("feed(9) at 512", WRONG, () -> x.feed(9, -1));
            CHECK.dueThrow("feed(0) at 512", WRONG, () -> x.feed(0, -1));
            CHECK.due("full", x.look(5), 512);
            CHECK.due("write", x.write(1, 0), 512);
            CHECK.due("the last byte before", x.read(1, 511 - n) & 255, (512 - n) % 256);
            CHECK.due("the first byte of the last feed", x.read(1, 512 - n), 0);
            CHECK.due("feed after write", x.feed(8, 1), 8);
        }
    }

    private static void promise3LeastFreeInode() {
        CHECK.sentence("3: its inode, the least that is free");
        Tree x = new Tree(96);
        for (int i = 1; i <= 63; i++) {
            CHECK.due("make " + i, x.make(0, i, false), i);
            CHECK.due("it is empty", x.node(i, 1) + x.node(i, 2), 0);
        }
        for (int i : new int[] {63, 2, 40, 1}) {
            x.remove(0, i);
        }
        for (int due : new int[] {1, 2, 40, 63}) {
            CHECK.due("make", x.make(0, 100 + due, true), due);
            CHECK.due("its kind", x.node(due, 0), 2);
        }
        CHECK.due("none is left", x.make(0, 200, false), -3);
        Tree y = new Tree(96);
        y.make(0, 1, false);
        y.drop();
        CHECK.due("after drop", y.make(0, 2, true), 1);
    }

    private static void promise3DirectoryFaults() {
        CHECK.sentence("3: -1 or -5 for the directory");
        Tree x = new Tree(96);
        CHECK.due("make", x.make(0, 1, false), 1);
        CHECK.due("in a free inode", x.make(2, 1, false), -1);
        CHECK.due("in the one that it would get", x.make(2, 1, true), -1);
        CHECK.due("in the last inode", x.make(63, 1, false), -1);
        CHECK.due("in a file", x.make(1, 1, false), -5);
        x.remove(0, 1);
        CHECK.due("in what was a file", x.make(1, 1, false), -1);
    }

    private static void promise3NameThere() {
        CHECK.sentence("3: -2");
        Tree x = new Tree(96);
        for (int i = 1; i <= 17; i++) {
            x.make(0, i, i == 17);
        }
        CHECK.due("the first entry's name", x.make(0, 1, true), -2);
        CHECK.due("the last one's in its block", x.make(0, 16, false), -2);
        CHECK.due("one of the second block", x.make(0, 17, true), -2);
        CHECK.due("in another directory", x.make(17, 17, true), 18);
        CHECK.due("a name with the same lowest byte", x.make(0, 257, false), 19);
        CHECK.due("with the same highest byte", x.make(0, 258, false), 20);
        x.remove(0, 16);
        CHECK.due("removed", x.make(0, 16, false), 16);
    }

    private static void promise3NoInode() {
        CHECK.sentence("3: -3");
        Tree x = new Tree(96);
        for (int i = 1; i <= 62; i++) {
            x.make(0, i, true);
        }
        CHECK.due("one is free", x.look(2), 1);
        CHECK.due("the last one", x.make(62, 1, true), 63);
        CHECK.due("in the root", x.make(0, 63, false), -3);
        CHECK.due("in the last one", x.make(63, 1, false), -3);
        CHECK.due("remove", x.remove(0, 30), 0);
        CHECK.due("in the last one then", x.make(63, 1, false), 30);
    }

    private static void promise3NoBlock() {
        CHECK.sentence("3: -4");
        Tree x = new Tree(96);
        Check.file(x, 1, 36 * 64);
        for (int i = 2; i <= 16; i++) {
            CHECK.due("while the root's block has room", x.make(0, i, true), i);
        }
        CHECK.due("the root is full", x.make(0, 17, false), -4);
        CHECK.due("a directory without a block", x.make(16, 1, false), -4);
        CHECK.due("inode 17 stays free", x.node(17, 0), 0);
        CHECK.due("sizes stay", x.node(0, 1) * 100 + x.node(16, 1), 6400);
        x.cut(1, 35 * 64);
        CHECK.due("with one block", x.make(16, 1, false), 17);
        CHECK.due("it is taken", x.look(1), 0);
        CHECK.due("the root is still full", x.make(0, 17, false), -4);
    }

    private static void promise3FirstThatHolds() {
        CHECK.sentence("3: otherwise the first that holds: -1 or -5 for the directory, -2, -3, -4");
        Tree x = new Tree(96);
        Check.file(x, 1, 33 * 64);
        for (int i = 2; i <= 63; i++) {
            CHECK.due("make", x.make(0, i, i == 63), i);
        }
        CHECK.due("no inode, no block", x.look(1) + x.look(2), 0);
        CHECK.due("-5 before -3 and -4", x.make(1, 99, false), -5);
        CHECK.due("-2 before -3", x.make(0, 63, false), -2);
        CHECK.due("-3 before -4", x.make(63, 1, false), -3);
        CHECK.due("remove", x.remove(0, 40), 0);
        CHECK.due("-1 before -4", x.make(40, 1, false), -1);
        CHECK.due("-5 before -4", x.make(1, 1, false), -5);
        CHECK.due("-2 before -4", x.make(0, 62, false), -2);
        CHECK.due("-4", x.make(63, 1, false), -4);
    }

    private static void promise3Throws() {
        CHECK.sentence("3: Throws IllegalArgumentException when an inode is not 0 .. 63, or name not 1 .. 65535");
        Tree x = new Tree(96);
        for (int inode : WRONG_INODES) {
            CHECK.dueThrow("make in " + inode, WRONG, () -> x.make(inode, 1, false));
        }
        for (int name : WRONG_NAMES) {
            CHECK.dueThrow("make " + name, WRONG, () -> x.make(0, name, true));
            CHECK.dueThrow("make in a free one " + name, WRONG, () -> x.make(9, name, true));
        }
        CHECK.due("nothing is made", x.look(2) * 100 + x.look(3), 6300);
        CHECK.due("the least name", x.make(0, 1, false), 1);
        CHECK.due("the largest name", x.make(0, 65535, false), 2);
        CHECK.due("the last inode", x.make(63, 1, false), -1);
    }

    private static void promise4Answers() {
        CHECK.sentence("4: The inode of an entry; -1 or -5 for the directory, -1 for the entry");
        Tree x = new Tree(96);
        CHECK.due("in an empty root", x.find(0, 1), -1);
        for (int i = 1; i <= 63; i++) {
            x.make(0, i, i == 63);
        }
        CHECK.due("the first", x.find(0, 1), 1);
        CHECK.due("the last of a block", x.find(0, 16), 16);
        CHECK.due("the first of the next", x.find(0, 17), 17);
        CHECK.due("the last", x.find(0, 63), 63);
        CHECK.due("none of that name", x.find(0, 64), -1);
        CHECK.due("none of that highest byte", x.find(0, 257), -1);
        CHECK.due("in an empty directory", x.find(63, 1), -1);
        CHECK.due("in a file", x.find(1, 1), -5);
        CHECK.due("in the last file", x.find(62, 64), -5);
        x.remove(0, 62);
        CHECK.due("in a free inode", x.find(62, 1), -1);
        CHECK.due("what is removed", x.find(0, 62), -1);
        CHECK.due("the one behind it", x.find(0, 63), 63);
    }

    private static void promise4Throws() {
        CHECK.sentence("4: throws IllegalArgumentException (as all calls that get an inode or a name do)");
        Tree x = new Tree(96);
        x.make(0, 1, false);
        for (int inode : WRONG_INODES) {
            CHECK.dueThrow("find in " + inode, WRONG, () -> x.find(inode, 1));
        }
        for (int name : WRONG_NAMES) {
            CHECK.dueThrow("find " + name, WRONG, () -> x.find(0, name));
            CHECK.dueThrow("find in a file " + name, WRONG, () -> x.find(1, name));
        }
        CHECK.due("the last name", x.find(0, 65535), -1);
        CHECK.due("the last inode", x.find(63, 1), -1);
    }

    /** File 1 of that many bytes: 1, 2, 3 and so on. */
    private static Tree fileOf(int size) {
        Tree x = new Tree(96);
        x.make(0, 1, false);
        Check.feed(x, size, 1);
        x.write(1, 0);
        return x;
    }

    private static void promise5OffsetsWithin() {
        CHECK.sentence("5: The tape is written into a file from offset on: its size");
        for (int offset : new int[] {0, 1, 8, 59, 60, 61, 63, 64, 65, 96, 97, 99, 100}) {
            Tree x = fileOf(100);
            Check.feedFull(x, 4);
            int due = Math.max(100, offset + 4);
            CHECK.due("write at " + offset, x.write(1, offset), due);
            CHECK.due("its size", x.node(1, 1), due);
            for (int i = 0; i < 128; i++) {
                int byteDue = i >= offset && i < offset + 4 ? 255 : i < 100 ? i + 1 : 0;
                CHECK.due("written at " + offset + ": byte " + i, x.at(60 + i / 64, i % 64, false), byteDue);
            }
        }
    }

    private static void promise5EmptyAndFullTape() {
        CHECK.sentence("5: an empty tape, and one of 512");
        Tree x = fileOf(100);
        x.commit();
        CHECK.due("nothing, at 0", x.write(1, 0), 100);
        CHECK.due("nothing, at the end", x.write(1, 100), 100);
        CHECK.due("nothing is changed", x.look(3), 0);
        CHECK.due("nothing, behind the end", x.write(1, 101), -8);
        Check.feed(x, 512, 7);
        CHECK.due("512, at the end", x.write(1, 100), 612);
        CHECK.due("the last of them", x.read(1, 611), (7 + 511) % 256);
        CHECK.due("the first of them", x.read(1, 100) & 255, 7);
        CHECK.due("the one before", x.read(1, 99) & 255, 100);
        Check.feed(x, 512, 9);
        CHECK.due("512, at 100 again", x.write(1, 100), 612);
        CHECK.due("the last of them", x.read(1, 611), (9 + 511) % 256);
        Tree y = new Tree(96);
        y.make(0, 1, false);
        CHECK.due("nothing into an empty file", y.write(1, 0), 0);
        CHECK.due("it has no block", y.node(1, 2), 0);
    }

    private static void promise5TapeIsUsedUp() {
        CHECK.sentence("5: The tape, which is used up (in any case, but when this throws)");
        int[][] inodeOffsetDue = {{1, 0, 100}, {9, 0, -1}, {0, 0, -5}, {1, 101, -8}, {1, -1, -8}, {2, 0, -4}};
        for (int[] row : inodeOffsetDue) {
            Tree x = fileOf(100);
            x.make(0, 2, false);
            Check.file(x, 3, 34 * 64);
            Check.feed(x, 10, 1);
            CHECK.due("write(" + row[0] + ", " + row[1] + ")", x.write(row[0], row[1]), row[2]);
            CHECK.due("the tape", x.look(5), 0);
            CHECK.due("feed then", x.feed(2, 0), 2);
        }
        Tree x = fileOf(100);
        x.feed(3, 0x030201);
        for (int inode : WRONG_INODES) {
            CHECK.dueThrow("write(" + inode + ", 0)", WRONG, () -> x.write(inode, 0));
            CHECK.due("the tape", x.look(5), 3);
        }
        CHECK.due("write", x.write(1, 100), 103);
        CHECK.due("its bytes", x.read(1, 100), 0x030201);
    }

    private static void promise5OutOfBounds() {
        CHECK.sentence("5: -8 when offset is below 0 or above its size");
        for (int size : new int[] {0, 1, 63, 64, 65, 500}) {
            Tree x = fileOf(size);
            x.commit();
            for (int offset : new int[] {-1, -64, size + 1, size + 64, 65536, MOST, MOST - 1, MOST - 7, LEAST}) {
                Check.feed(x, 8, 1);
                CHECK.due("size " + size + ": write at " + offset, x.write(1, offset), -8);
            }
            CHECK.due("nothing is changed", x.look(3), 0);
            Check.feed(x, 8, 1);
            CHECK.due("size " + size + ": write at its end", x.write(1, size), size + 8);
        }
    }

    private static void promise5NoBlock() {
        CHECK.sentence("5: -4");
        Tree x = fileOf(100);
        Check.file(x, 2, 34 * 64);
        CHECK.due("no block is free", x.look(1), 0);
        Check.feedFull(x, 28);
        CHECK.due("up to the end of its last block", x.write(1, 100), 128);
        Check.feedFull(x, 100);
        CHECK.due("within it", x.write(1, 0), 128);
        x.feed(1, 7);
        CHECK.due("a byte more", x.write(1, 128), -4);
        Check.feed(x, 129, 1);
        CHECK.due("over all, and a byte more", x.write(1, 0), -4);
        CHECK.due("nothing of it is written", x.read(1, 0), -1L);
        CHECK.due("nothing, at its end", x.write(1, 128), 128);
        CHECK.due("its size", x.node(1, 1), 128);
    }

    private static void promise5FirstThatHolds() {
        CHECK.sentence("5: otherwise: -1, -5; -8; -4");
        Tree x = fileOf(100);
        Check.file(x, 2, 34 * 64);
        Check.feed(x, 200, 1);
        CHECK.due("-1 before -8", x.write(9, -1), -1);
        CHECK.due("-5 before -8", x.write(0, -1), -5);
        CHECK.due("-5 before -8, behind the end", x.write(0, 65), -5);
        Check.feed(x, 200, 1);
        CHECK.due("-8 before -4", x.write(1, 101), -8);
        Check.feed(x, 200, 1);
        CHECK.due("-8 before -4, below 0", x.write(1, -1), -8);
        Check.feed(x, 200, 1);
        CHECK.due("-1 before -4", x.write(9, 0), -1);
        Check.feed(x, 200, 1);
        CHECK.due("-5 before -4", x.write(0, 0), -5);
        Check.feed(x, 200, 1);
        CHECK.due("-4", x.write(1, 100), -4);
    }

    private static void promise5Throws() {
        CHECK.sentence("5: throws IllegalArgumentException when inode is not 0 .. 63");
        Tree x = fileOf(10);
        for (int inode : WRONG_INODES) {
            CHECK.dueThrow("write(" + inode + ", 0)", WRONG, () -> x.write(inode, 0));
            CHECK.dueThrow("write(" + inode + ", -1)", WRONG, () -> x.write(inode, -1));
        }
        CHECK.due("the last inode", x.write(63, 0), -1);
        CHECK.due("the root", x.write(0, 0), -5);
    }

    private static void promise6Sizes() {
        CHECK.sentence("6: A file is cut to a size, or grows to it: that size");
        for (int size : new int[] {0, 1, 63, 64, 65, 99, 100, 101, 128, 129, 1123, 1124}) {
            Tree x = fileOf(100);
            CHECK.due("cut to " + size, x.cut(1, size), size);
            CHECK.due("its size", x.node(1, 1), size);
            CHECK.due("blocks free", x.look(1), 36 - (size + 63) / 64);
            if (size > 0) {
                CHECK.due("its first byte", x.read(1, 0) & 255, 1);
                CHECK.due("its last byte", x.read(1, size - 1), size <= 100 ? size : 0);
            }
            x.commit();
            CHECK.due("again", x.cut(1, size), size);
            CHECK.due("nothing is changed", x.look(3), 0);
        }
    }

    private static void promise6GrowsWith0s() {
        CHECK.sentence("6: grows to it with 0s");
        Tree x = new Tree(96);
        x.make(0, 1, false);
        Check.feedFull(x, 512);
        x.write(1, 0);
        x.commit();
        x.cut(1, 3);
        x.cut(1, 1027);
        CHECK.due("what it has kept", x.read(1, 0), 0xffffff);
        for (int offset = 8; offset < 1027; offset += 8) {
            CHECK.due("from " + offset + " on", x.read(1, offset), 0);
        }
    }

    private static void promise6OutOfBounds() {
        CHECK.sentence("6: -8 when size is below 0, or more than 1024 above what it is");
        for (int size : new int[] {0, 1, 64, 500}) {
            Tree x = fileOf(size);
            x.commit();
            for (int to : new int[] {-1, -1024, LEAST, LEAST + 1, size + 1025, size + 1026, 65536, 65537, MOST}) {
                CHECK.due("from " + size + " to " + to, x.cut(1, to), -8);
            }
            CHECK.due("nothing is changed", x.look(3), 0);
            CHECK.due("1024 above " + size, x.cut(1, size + 1024), size + 1024);
            CHECK.due("2049 above", x.cut(1, size + 2049), -8);
            CHECK.due("back to 0", x.cut(1, 0), 0);
            CHECK.due("1025 above 0", x.cut(1, 1025), -8);
        }
    }

    private static void promise6NoBlock() {
        CHECK.sentence("6: -4");
        Tree x = fileOf(100);
        Check.file(x, 2, 33 * 64);
        CHECK.due("one block is free", x.look(1), 1);
        CHECK.due("two more", x.cut(1, 193), -4);
        CHECK.due("its size", x.node(1, 1), 100);
        CHECK.due("one more", x.cut(1, 192), 192);
        CHECK.due("none is free", x.look(1), 0);
        CHECK.due("a byte more", x.cut(1, 193), -4);
        CHECK.due("1024 more", x.cut(1, 192 + 1024), -4);
        CHECK.due("a byte less", x.cut(1, 191), 191);
        CHECK.due("an empty one", x.make(0, 3, false), 3);
        CHECK.due("cannot grow", x.cut(3, 1), -4);
        CHECK.due("to 0 it can", x.cut(3, 0), 0);
    }

    private static void promise6FirstThatHolds() {
        CHECK.sentence("6: otherwise: -1, -5; -8; -4");
        Tree x = fileOf(100);
        Check.file(x, 2, 34 * 64);
        CHECK.due("-1 before -8", x.cut(9, -1), -1);
        CHECK.due("-1 before -8, above", x.cut(9, 1025), -1);
        CHECK.due("-5 before -8", x.cut(0, -1), -5);
        CHECK.due("-5 before -8, above", x.cut(0, 64 + 1025), -5);
        CHECK.due("-8 before -4", x.cut(1, 1125), -8);
        CHECK.due("-1 before -4", x.cut(9, 1), -1);
        CHECK.due("-5 before -4", x.cut(0, 128), -5);
        CHECK.due("-5, as large as it is", x.cut(0, 64), -5);
        CHECK.due("-4", x.cut(1, 1124), -4);
    }

    private static void promise6Throws() {
        CHECK.sentence("6: throws IllegalArgumentException when inode is not 0 .. 63");
        Tree x = fileOf(10);
        for (int inode : WRONG_INODES) {
            CHECK.dueThrow("cut(" + inode + ", 0)", WRONG, () -> x.cut(inode, 0));
            CHECK.dueThrow("cut(" + inode + ", -1)", WRONG, () -> x.cut(inode, -1));
        }
        CHECK.due("the last inode", x.cut(63, 0), -1);
        CHECK.due("the root", x.cut(0, 0), -5);
    }

    private static void promise7ZerosBehindTheEnd() {
        CHECK.sentence("7: Eight bytes, from offset on, lowest first, as a number; 0s behind the end");
        Tree x = new Tree(96);
        x.make(0, 1, false);
        x.make(0, 2, false);
        Check.feed(x, 64, 0x81);
        x.write(1, 0);
        Check.feedFull(x, 64);
        x.write(2, 0);
        CHECK.due("the last eight", x.read(1, 56), 0xc0bfbebdbcbbbab9L);
        for (int left = 7; left >= 1; left--) {
            CHECK.due(left + " left", x.read(1, 64 - left), 0xc0bfbebdbcbbbab9L >>> 8 * (8 - left));
        }
        x.cut(1, 10);
        CHECK.due("the end within a block", x.read(1, 2), 0x8a89888786858483L);
        CHECK.due("one behind it", x.read(1, 3), 0x8a898887868584L);
        CHECK.due("seven behind it", x.read(1, 9), 0x8a);
        CHECK.due("the root's last byte", x.read(0, 63), 0);
        CHECK.due("its entries", x.read(0, 0), 1L | 1L << 16 | 2L << 32 | 2L << 48);
        CHECK.due("in an entry's midst", x.read(0, 6), 2);
    }

    private static void promise7OverBlocksAndExtents() {
        CHECK.sentence("7: Eight bytes of a file, over the ends of its blocks and extents");
        Tree x = new Tree(96);
        x.make(0, 1, false);
        x.make(0, 2, false);
        x.cut(2, 64);
        Check.feed(x, 128, 1);
        x.write(1, 0);
        x.cut(2, 128);
        Check.feed(x, 64, 129);
        x.write(1, 128);
        CHECK.due("extents", x.node(1, 2), 2);
        for (int end : new int[] {64, 128}) {
            for (int before = 0; before <= 8; before++) {
                long due = 0;
                for (int i = 7; i >= 0; i--) {
                    due = due << 8 | end - before + i + 1;
                }
                CHECK.due("from " + before + " before " + end, x.read(1, end - before), due);
            }
        }
    }

    private static void promise7NoByteThere() {
        CHECK.sentence("7: NoSuchElementException when it has no byte there");
        for (int size : new int[] {0, 1, 63, 64, 65, 128}) {
            Tree x = fileOf(size);
            for (int offset : new int[] {-1, -8, size, size + 1, size + 64, 65536, MOST, MOST - 7, LEAST}) {
                CHECK.dueThrow("size " + size + ": read at " + offset, NONE, () -> x.read(1, offset));
            }
            if (size > 0) {
                CHECK.due("size " + size + ": the last byte", x.read(1, size - 1), size);
                CHECK.due("size " + size + ": the first byte", x.read(1, 0) & 255, 1);
            }
        }
        Tree x = new Tree(96);
        CHECK.dueThrow("the root, of size 0", NONE, () -> x.read(0, 0));
        x.make(0, 1, true);
        CHECK.dueThrow("a directory of size 0", NONE, () -> x.read(1, 0));
        CHECK.dueThrow("behind the root's block", NONE, () -> x.read(0, 64));
        CHECK.dueThrow("before it", NONE, () -> x.read(0, -1));
    }

    private static void promise7Free() {
        CHECK.sentence("7: NoSuchElementException when it is free");
        Tree x = fileOf(10);
        CHECK.dueThrow("one that never was", NONE, () -> x.read(2, 0));
        CHECK.dueThrow("the last one", NONE, () -> x.read(63, 0));
        x.remove(0, 1);
        CHECK.dueThrow("one that was removed", NONE, () -> x.read(1, 0));
        x.make(0, 2, false);
        CHECK.dueThrow("one made anew is empty", NONE, () -> x.read(1, 0));
    }

    private static void promise7Throws() {
        CHECK.sentence("7: Throws IllegalArgumentException when inode is not 0 .. 63");
        Tree x = fileOf(10);
        for (int inode : WRONG_INODES) {
            CHECK.dueThrow("read(" + inode + ", 0)", WRONG, () -> x.read(inode, 0));
            CHECK.dueThrow("read(" + inode + ", -1)", WRONG, () -> x.read(inode, -1));
        }
    }
}
