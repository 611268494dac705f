import java.util.NoSuchElementException;

/** Promises 5, 6 and 7: write, cut, read. */
public final class BytesTest {
    private static final Check CHECK = new Check();

    public static void main(String[] args) {
        promise5Writes();
        promise5Faults();
        promise5NoBlock();
        promise6Cuts();
        promise6Bounds();
        promise6NinthExtent();
        promise6FullExtent();
        promise6ToTheLastBlock();
        promise7Reads();
        promise7Wrong();
        CHECK.end();
    }

    private static void promise5Writes() {
        Tree x = new Tree(96);
        x.make(0, 1, false);
        CHECK.due("write nothing", x.write(1, 0), 0);
        CHECK.due("it has no block", x.node(1, 2), 0);
        Check.feed(x, 70, 1);
        CHECK.due("write 70 bytes", x.write(1, 0), 70);
        CHECK.due("they have two blocks", x.node(1, 4), 2);
        CHECK.due("over the block's end", x.read(1, 60), 0x44434241403f3e3dL);
        Check.feed(x, 3, 201);
        CHECK.due("write within", x.write(1, 63), 70);
        CHECK.due("only those three differ", x.read(1, 60), 0x4443cbcac93f3e3dL);
        Check.feed(x, 4, 7);
        CHECK.due("write over the end", x.write(1, 68), 72);
        CHECK.due("the end", x.read(1, 64), 0x0a09080744_43cbcaL);
        Check.feed(x, 1, 99);
        CHECK.due("write right behind the end", x.write(1, 72), 73);
        CHECK.due("write nothing at the end", x.write(1, 73), 73);
        Check.feed(x, 512, 0);
        CHECK.due("write a full tape", x.write(1, 1), 513);
        CHECK.due("its first byte", x.read(1, 0) & 0xffff, 1);
        CHECK.due("its last byte", x.read(1, 512), 255);
    }

    private static void promise5Faults() {
        Tree x = new Tree(96);
        x.make(0, 1, false);
        x.cut(1, 10);
        x.commit();
        int[][] inodeOffsetDue = {
            {2, 0, -1}, {2, -1, -1}, {0, 0, -5}, {0, -1, -5}, {1, 11, -8}, {1, -1, -8},
            {1, Integer.MAX_VALUE, -8}, {1, Integer.MIN_VALUE, -8},
        };
        for (int[] row : inodeOffsetDue) {
            Check.feed(x, 5, 1);
            CHECK.due("write(" + row[0] + ", " + row[1] + ")", x.write(row[0], row[1]), row[2]);
            CHECK.due("the tape is used up", x.look(5), 0);
        }
        CHECK.due("nothing changed", x.look(3), 0);
        Check.feed(x, 5, 1);
        for (int inode : new int[] {-1, 64, Integer.MIN_VALUE}) {
            CHECK.dueThrow("write(" + inode + ", 0)", IllegalArgumentException.class, () -> x.write(inode, 0));
        }
        CHECK.due("the tape is not used up", x.look(5), 5);
        CHECK.due("write at the end", x.write(1, 10), 15);
    }

    private static void promise5NoBlock() {
        Tree x = new Tree(96);
        Check.file(x, 1, 34 * 64);
        x.make(0, 2, false);
        Check.feed(x, 60, 1);
        x.write(2, 0);
        x.commit();
        CHECK.due("blocks free", x.look(1), 1);
        Check.feed(x, 118, 50);
        CHECK.due("just the one block more", x.write(2, 10), 128);
        x.drop();
        Check.feed(x, 119, 50);
        CHECK.due("a byte more than that", x.write(2, 10), -4);
        CHECK.due("the tape is used up", x.look(5), 0);
        CHECK.due("its bytes are as they were", x.read(2, 8), 0x100f0e0d0c0b0a09L);
        CHECK.due("its size is as it was", x.node(2, 1), 60);
        CHECK.due("the free one is free", x.look(1), 1);
        CHECK.due("nothing changed", x.look(3), 0);
    }

    private static void promise6Cuts() {
        Tree x = new Tree(96);
        x.make(0, 1, false);
        CHECK.due("grow", x.cut(1, 64), 64);
        CHECK.due("64 bytes are one block", x.node(1, 4), 1);
        CHECK.due("grow by a byte", x.cut(1, 65), 65);
        CHECK.due("65 bytes are two", x.node(1, 4), 2);
        Check.feed(x, 65, 1);
        x.write(1, 0);
        CHECK.due("cut to 3", x.cut(1, 3), 3);
        CHECK.due("one block is left", x.node(1, 4), 1);
        for (int k = 3; k < 64; k++) {
            CHECK.due("byte " + k + " behind the size", x.at(60, k, false), 0);
        }
        CHECK.due("grow again", x.cut(1, 128), 128);
        CHECK.due("with 0s", x.read(1, 0), 0x030201);
        CHECK.due("in the second block too", x.read(1, 64), 0);
        CHECK.due("as large as it is", x.cut(1, 128), 128);
        CHECK.due("cut to 0", x.cut(1, 0), 0);
        CHECK.due("no extent is left", x.node(1, 2), 0);
        int sum = 0;
        for (int k = 33; k < 64; k++) {
            sum += x.at(25, k, false);
        }
        CHECK.due("the inode's other bytes are 0", sum, 0);
        CHECK.due("blocks free", x.look(1), 36);
    }

    private static void promise6Bounds() {
        Tree x = new Tree(96);
        x.make(0, 1, false);
        CHECK.due("1025 above", x.cut(1, 1025), -8);
        CHECK.due("1024 above", x.cut(1, 1024), 1024);
        CHECK.due("1025 above 1024", x.cut(1, 2049), -8);
        CHECK.due("below 0", x.cut(1, -1), -8);
        CHECK.due("far below", x.cut(1, Integer.MIN_VALUE), -8);
        CHECK.due("far above", x.cut(1, Integer.MAX_VALUE), -8);
        CHECK.due("a free inode", x.cut(2, -1), -1);
        CHECK.due("a directory", x.cut(0, -1), -5);
        for (int inode : new int[] {-1, 64, Integer.MAX_VALUE}) {
            CHECK.dueThrow("cut(" + inode + ", 0)", IllegalArgumentException.class, () -> x.cut(inode, 0));
        }
        CHECK.due("to 2048", x.cut(1, 2048), 2048);
        CHECK.due("blocks free", x.look(1), 4);
        CHECK.due("more than is free", x.cut(1, 2048 + 257), -4);
        CHECK.due("its size is as it was", x.node(1, 1), 2048);
        CHECK.due("its blocks are as they were", x.node(1, 4), 32);
        CHECK.due("just what is free", x.cut(1, 2048 + 256), 2304);
        CHECK.due("no block is free", x.look(1), 0);
    }

    private static void promise6NinthExtent() {
        Tree x = new Tree(96);
        x.make(0, 1, false);
        x.make(0, 2, false);
        for (int i = 1; i <= 8; i++) {
            x.cut(1, 64 * i);
            x.cut(2, 64 * i);
        }
        CHECK.due("eight extents", x.node(1, 2), 8);
        CHECK.due("the first one's block", x.node(1, 3), 60);
        CHECK.due("the eighth one's block", x.node(1, 17), 74);
        CHECK.due("and how many it has", x.node(1, 18), 1);
        CHECK.due("a ninth one", x.cut(1, 513), -4);
        CHECK.due("still eight", x.node(1, 2), 8);
        CHECK.due("the eighth can grow", x.cut(2, 640), 640);
        CHECK.due("by two", x.node(2, 18), 3);
        CHECK.due("as many are free", x.look(1), 18);
        x.cut(2, 448);
        CHECK.due("given back from the end on", x.node(2, 2), 7);
        CHECK.due("now block 75 is free for it", x.cut(1, 512 + 256), 768);
        CHECK.due("in its eighth extent", x.node(1, 18), 5);
    }

    private static void promise6FullExtent() {
        Tree x = new Tree(768);
        int inode = Check.file(x, 1, 255 * 64);
        CHECK.due("one extent", x.node(inode, 2), 1);
        CHECK.due("of 255", x.node(inode, 4), 255);
        CHECK.due("one more block", x.cut(inode, 256 * 64), 256 * 64);
        CHECK.due("is a second extent", x.node(inode, 2), 2);
        CHECK.due("right behind it", x.node(inode, 5), 60 + 255);
        CHECK.due("of one", x.node(inode, 6), 1);
        x.cut(inode, 255 * 64);
        CHECK.due("cut: one extent", x.node(inode, 2), 1);
        CHECK.due("cut: of 255", x.node(inode, 4), 255);
    }

    private static void promise6ToTheLastBlock() {
        Tree x = new Tree(768);
        int inode = Check.file(x, 1, 708 * 64);
        CHECK.due("all blocks are taken", x.look(1), 0);
        CHECK.due("size", x.node(inode, 1), 708 * 64);
        CHECK.due("size's bytes", x.at(25, 34, false) + 256 * x.at(25, 35, false), 708 * 64);
        CHECK.due("third extent", x.node(inode, 7), 60 + 510);
        CHECK.due("third extent's bytes", x.at(25, 42, false) + 256 * x.at(25, 43, false), 570);
        CHECK.due("map's last bytes", x.at(58, 31, false) + x.at(58, 32, false), 255);
        Check.feed(x, 8, 1);
        CHECK.due("write at the end", x.write(inode, 708 * 64 - 8), 708 * 64);
        CHECK.due("the last block's end", x.at(767, 63, false), 8);
        CHECK.due("one byte more", x.cut(inode, 708 * 64 + 1), -4);
        x.cut(inode, 0);
        CHECK.due("all blocks are free", x.look(1), 708);
    }

    private static void promise7Reads() {
        Tree x = new Tree(96);
        x.make(0, 1, false);
        x.make(0, 2, false);
        for (int i = 0; i < 3; i++) {
            Check.feed(x, 64, 64 * i + 1);
            x.write(1, 64 * i);
            x.cut(2, 64 * (i + 1));
        }
        CHECK.due("three extents", x.node(1, 2), 3);
        CHECK.due("over an extent's end", x.read(1, 124), 0x84838281807f7e7dL);
        CHECK.due("the last eight", x.read(1, 184), 0xc0bfbebdbcbbbab9L);
        CHECK.due("0s behind the end", x.read(1, 185), 0xc0bfbebdbcbbbaL);
        CHECK.due("the last byte", x.read(1, 191), 0xc0);
        CHECK.due("a directory", x.read(0, 0), 1L | 1L << 16 | 2L << 32 | 2L << 48);
        CHECK.due("a directory's last byte", x.read(0, 63), 0);
        x.cut(1, 100);
        CHECK.due("0s behind a size within a block", x.read(1, 96), 0x64636261);
    }

    private static void promise7Wrong() {
        Tree x = new Tree(96);
        x.make(0, 1, false);
        x.cut(1, 10);
        x.make(0, 2, true);
        Class<NoSuchElementException> none = NoSuchElementException.class;
        for (int offset : new int[] {-1, 10, 11, 64, Integer.MAX_VALUE, Integer.MIN_VALUE}) {
            CHECK.dueThrow("read(1, " + offset + ")", none, () -> x.read(1, offset));
        }
        CHECK.dueThrow("read of a free inode", none, () -> x.read(3, 0));
        CHECK.dueThrow("read of an empty directory", none, () -> x.read(2, 0));
        CHECK.dueThrow("read behind the root's end", none, () -> x.read(0, 64));
        for (int inode : new int[] {-1, 64, Integer.MAX_VALUE, Integer.MIN_VALUE}) {
            CHECK.dueThrow("read(" + inode + ", -1)", IllegalArgumentException.class, () -> x.read(inode, -1));
        }
    }
}
