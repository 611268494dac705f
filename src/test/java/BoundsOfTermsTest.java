/** The sentences of the document's head and terms that name a bound: blocks, inodes, the map, how blocks are taken. */
public final class BoundsOfTermsTest {
    private static final Check CHECK = new Check();

    public static void main(String[] args) {
        atMost512Calls();
        bytesAre0To255();
        blocksUpTo24AreNotForFiles();
        inodesInTheirBlocks();
        noneToEightExtents();
        sizesOfTwoBytes();
        firstBlocksOfTwoBytes();
        otherBytesAre0();
        asManyBlocksAsTheSizeNeeds();
        bytesBehindTheSizeAre0();
        mapOfEachBlock();
        mapEndsWithTheBlocks();
        takeTheOneRightBehind();
        takeTheLeastFreeOne();
        takeWithNoneRightBehind();
        takeBehind255();
        takeWhenThereIsNone();
        takeANinthExtent();
        takeANinthExtentBehind255();
        takenBlocksHave0s();
        givenBackFromTheEnd();
        CHECK.end();
    }

    private static void atMost512Calls() {
        CHECK.sentence("An object is used for at most 512 calls");
        Tree x = new Tree(96);
        for (int i = 0; i < 255; i++) {
            CHECK.due("make " + i, x.make(0, 1, i % 2 == 0), 1);
            CHECK.due("remove " + i, x.remove(0, 1), 0);
        }
        CHECK.due("call 511", x.make(0, 1, true), 1);
        CHECK.due("call 512", x.make(1, 1, true), 2);
        Tree y = new Tree(768);
        for (int i = 0; i < 511; i++) {
            CHECK.dueThrow("refused call " + i, IllegalArgumentException.class, () -> y.find(64, 1));
        }
        CHECK.due("call 512 behind refused ones", y.make(0, 1, false), 1);
    }

    private static void bytesAre0To255() {
        CHECK.sentence("64 BYTES (0 .. 255)");
        Tree x = new Tree(96);
        x.make(0, 65535, false);
        x.feed(8, -1);
        x.write(1, 0);
        CHECK.dueBytes("a file's", x, 60, 0, 255, 255, 255, 255, 255, 255, 255, 255, 0);
        CHECK.dueBytes("a name's", x, 59, 0, 255, 255);
        CHECK.due("read", x.read(1, 0), -1L);
        x.commit();
        CHECK.due("committed", x.at(60, 7, true), 255);
        for (int value = 0; value < 256; value++) {
            Tree y = new Tree(96);
            y.make(0, 1, false);
            y.feed(1, value);
            y.write(1, 0);
            CHECK.due("byte " + value, y.at(60, 0, false), value);
            CHECK.due("read of byte " + value, y.read(1, 0), value);
        }
    }

    private static void fillWith255(Tree x) {
        x.make(0, 65535, false);
        for (int size = 0; size < 36 * 64; size += 256) {
            Check.feedFull(x, 256);
            x.write(1, size);
        }
    }

    private static void blocksUpTo24AreNotForFiles() {
        CHECK.sentence("Those up to 24 are not for files. All bytes are 0 at first");
        Replay x = new Replay(96, BoundsOfTermsTest::fillWith255);
        CHECK.due("no block is free", x.look(1), 0);
        CHECK.due("the file's first block", x.node(1, 3), 60);
        CHECK.due("its blocks", x.node(1, 4), 36);
        for (int place = 0; place < 25 * 64; place++) {
            CHECK.due("byte " + place + " now", x.at(place / 64, place % 64, false), 0);
            CHECK.due("byte " + place + " committed", x.at(place / 64, place % 64, true), 0);
        }
        CHECK.due("the first changed one is not below 25", x.changed(0) >= 25 ? 1 : 0, 1);
    }

    private static void inodesInTheirBlocks() {
        CHECK.sentence("number i is 32 bytes from 32 * (i mod 2) on in block 25 + i / 2");
        Tree x = new Tree(96);
        for (int i = 1; i <= 63; i++) {
            x.make(0, i, i == 1 || i == 63);
        }
        x.cut(62, 300);
        CHECK.due("an entry for 63", x.move(0, 2, 63, 9), 0);
        CHECK.dueInode("the first", x, 0, 2, 1, 0, 1, 59, 0, 4);
        CHECK.dueInode("the second", x, 1, 2);
        CHECK.dueInode("one of block 26", x, 2, 1);
        CHECK.dueInode("the last but one", x, 62, 1, 1, 44, 1, 63, 0, 5);
        CHECK.dueInode("the last", x, 63, 2, 1, 64, 0, 68, 0, 1);
    }

    /** Files 1 and 2, which take blocks by turns: each has so many extents of one block, from 60 and 61 on. */
    private static Tree byTurns(int blocks, int extents) {
        Tree x = new Tree(blocks);
        x.make(0, 1, false);
        x.make(0, 2, false);
        for (int i = 1; i <= extents; i++) {
            x.cut(1, 64 * i);
            x.cut(2, 64 * i);
        }
        return x;
    }

    private static void noneToEightExtents() {
        CHECK.sentence("how many EXTENTS it has, 0 .. 8");
        Tree x = byTurns(96, 8);
        CHECK.dueInode("eight", x, 1, 1, 8, 0, 2, 60, 0, 1, 62, 0, 1, 64, 0, 1, 66, 0, 1, 68, 0, 1, 70, 0, 1, 72, 0, 1,
            74, 0, 1);
        for (int i = 8; i >= 0; i--) {
            CHECK.due("cut to " + i + " blocks", x.cut(1, 64 * i), 64 * i);
            CHECK.due("extents then", x.node(1, 2), i);
        }
        CHECK.dueInode("none", x, 1, 1);
    }

    private static void sizesOfTwoBytes() {
        CHECK.sentence("its SIZE (two bytes, lowest first)");
        for (int size : new int[] {0, 1, 255, 256, 257, 511, 512, 1023, 1024}) {
            Tree x = new Tree(96);
            x.make(0, 1, false);
            CHECK.due("cut", x.cut(1, size), size);
            CHECK.dueBytes("size " + size, x, 25, 34, size % 256, size / 256);
            CHECK.due("node", x.node(1, 1), size);
        }
        Tree x = new Tree(768);
        CHECK.due("the largest file there can be", Check.file(x, 1, 45312), 1);
        CHECK.due("its size", x.node(1, 1), 45312);
        CHECK.dueBytes("its size", x, 25, 34, 0, 177);
        CHECK.due("a byte less", x.cut(1, 45311), 45311);
        CHECK.dueBytes("a byte less", x, 25, 34, 255, 176);
        CHECK.due("its last byte", x.read(1, 45310), 0);
    }

    private static void firstBlocksOfTwoBytes() {
        CHECK.sentence("its first block (two bytes, lowest first) and how many blocks (one, 1 .. 255)");
        int[] firsts = {255, 256, 257, 511, 512, 513, 766, 767};
        for (int first : firsts) {
            Tree x = new Tree(768);
            Check.file(x, 1, (first - 60) * 64);
            x.make(0, 2, false);
            x.cut(2, 64);
            CHECK.due("first block", x.node(2, 3), first);
            CHECK.dueInode("from block " + first + " on", x, 2, 1, 1, 64, 0, first % 256, first / 256, 1);
            CHECK.due("its bit of the map", x.at(57 + first / 512, first / 8 % 64, false) >> first % 8, 1);
        }
        for (int count : new int[] {1, 2, 254, 255}) {
            Tree x = new Tree(768);
            Check.file(x, 1, 64 * count);
            CHECK.dueInode(count + " blocks", x, 1, 1, 1, 64 * count % 256, count / 4, 60, 0, count);
        }
    }

    private static void otherBytesAre0() {
        CHECK.sentence("the others, and all of a free one, are 0");
        Tree x = byTurns(96, 8);
        x.cut(1, 65);
        CHECK.dueInode("cut to two extents", x, 1, 1, 2, 65, 0, 60, 0, 1, 62, 0, 1);
        x.remove(0, 1);
        CHECK.dueInode("removed", x, 1);
        x.make(0, 3, true);
        CHECK.dueInode("made anew", x, 1, 2);
        x.make(0, 4, false);
        x.move(0, 4, 0, 2);
        CHECK.dueInode("another one moved onto it", x, 2);
    }

    private static void asManyBlocksAsTheSizeNeeds() {
        CHECK.sentence("they are just as many as its size needs");
        int[] sizes = {0, 1, 63, 64, 65, 127, 128, 129, 448, 449, 512, 960, 961, 1023, 1024};
        for (int size : sizes) {
            int due = size / 64 + (size % 64 == 0 ? 0 : 1);
            Tree x = new Tree(96);
            x.make(0, 1, false);
            x.cut(1, size);
            CHECK.due("free when it grew to " + size, x.look(1), 36 - due);
            x.cut(1, 1024);
            CHECK.due("free when it grew on", x.look(1), 20);
            x.cut(1, size);
            CHECK.due("free when it was cut to " + size, x.look(1), 36 - due);
            CHECK.due("extents", x.node(1, 2), due == 0 ? 0 : 1);
            if (due > 0) {
                CHECK.due("blocks", x.node(1, 4), due);
            }
            if (size <= 512) {
                Tree y = new Tree(96);
                y.make(0, 1, false);
                Check.feed(y, size, 1);
                CHECK.due("write", y.write(1, 0), size);
                CHECK.due("free when so many were written: " + size, y.look(1), 36 - due);
            }
        }
    }

    private static void bytesBehindTheSizeAre0() {
        CHECK.sentence("the bytes behind its size in the last one are 0");
        for (int size : new int[] {127, 126, 120, 119, 65, 64, 63, 8, 7, 1, 0}) {
            Tree x = new Tree(96);
            x.make(0, 1, false);
            Check.feedFull(x, 128);
            x.write(1, 0);
            x.cut(1, size);
            int held = (size + 63) / 64 * 64;
            for (int k = 0; k < held; k++) {
                CHECK.due("cut to " + size + ": byte " + k, x.at(60 + k / 64, k % 64, false), k < size ? 255 : 0);
            }
            x.cut(1, 200);
            for (int offset = 0; offset < 200; offset += 8) {
                int left = Math.max(0, Math.min(8, size - offset));
                long due = left == 8 ? -1L : (1L << 8 * left) - 1;
                CHECK.due("cut to " + size + ", then grown: from " + offset + " on", x.read(1, offset), due);
            }
        }
    }

    private static void dueMap(String told, Tree x, int taken) {
        for (int n = 0; n < 128; n++) {
            int bits = Math.max(0, Math.min(8, taken - 8 * n));
            CHECK.due(told + ": byte " + n + " of the map", x.at(57 + n / 64, n % 64, false), (1 << bits) - 1);
        }
    }

    private static void mapOfEachBlock() {
        CHECK.sentence("bit b mod 8 (from the lowest on) of byte b / 8 mod 64 of block 57 + b / 512 is 1 if b is TAKEN");
        dueMap("new: those below 59", new Tree(768), 59);
        for (int taken : new int[] {61, 63, 64, 65, 72, 504, 511, 512, 513, 520, 767, 768}) {
            Tree x = new Tree(768);
            Check.file(x, 1, (taken - 60) * 64);
            CHECK.due("free", x.look(1), 768 - taken);
            dueMap(taken + " taken", x, taken);
            x.cut(1, (taken - 61) * 64);
            dueMap("the last one given back", x, taken - 1);
        }
        Tree x = byTurns(96, 8);
        x.cut(2, 0);
        CHECK.dueBytes("every other one", x, 57, 7, 0x5f, 0x55, 0x05, 0);
    }

    private static void mapEndsWithTheBlocks() {
        CHECK.sentence("the others are FREE: of the L blocks, and none behind them");
        for (int blocks : new int[] {96, 97, 99, 103, 104, 511, 512, 513, 515, 767, 768}) {
            Tree x = new Tree(blocks);
            Check.file(x, 1, (blocks - 60) * 64);
            CHECK.due("all of " + blocks + " are taken", x.look(1), 0);
            dueMap("of " + blocks, x, blocks);
            CHECK.due("one more of " + blocks, x.cut(1, (blocks - 60) * 64 + 1), -4);
            x.remove(0, 1);
            CHECK.due("free of " + blocks, x.look(1), blocks - 60);
        }
    }

    private static void takeTheOneRightBehind() {
        CHECK.sentence("the one right behind its last one, if it is free: the extent grows");
        Tree x = byTurns(96, 1);
        x.cut(1, 0);
        CHECK.due("grow, with a lesser one free", x.cut(2, 65), 65);
        CHECK.dueInode("the extent has grown", x, 2, 1, 1, 65, 0, 61, 0, 2);
        CHECK.due("an empty file grows", x.cut(1, 65), 65);
        CHECK.dueInode("from the least free one on, then not right behind", x, 1, 1, 2, 65, 0, 60, 0, 1, 63, 0, 1);
    }

    private static void takeTheLeastFreeOne() {
        CHECK.sentence("otherwise the least free one, as an extent of its own");
        Tree x = byTurns(96, 3);
        x.make(0, 3, false);
        x.cut(3, 192);
        CHECK.due("file 3 has the three behind them", x.node(3, 3), 66);
        x.cut(1, 64);
        CHECK.due("grow, with 62 and 64 free and 66 taken", x.cut(2, 256), 256);
        CHECK.due("four extents", x.node(2, 2), 4);
        CHECK.due("the least free one", x.node(2, 9), 62);
        CHECK.due("grow again, with 63 its own", x.cut(2, 320), 320);
        CHECK.due("the next least one", x.node(2, 11), 64);
        CHECK.due("an extent before the first one's number is of its own too", x.node(2, 12), 1);
    }

    private static void takeWithNoneRightBehind() {
        CHECK.sentence("the one right behind its last one, if there is that");
        for (int blocks : new int[] {96, 97, 104, 511, 512, 513, 640, 767, 768}) {
            Tree x = new Tree(blocks);
            x.make(0, 1, false);
            x.cut(1, 128);
            Check.file(x, 2, (blocks - 62) * 64);
            x.cut(1, 64);
            int extents = x.node(2, 2);
            int last = x.node(2, 1 + 2 * extents) + x.node(2, 2 + 2 * extents) - 1;
            CHECK.due("the last block of all " + blocks, last, blocks - 1);
            CHECK.due("one more", x.cut(2, (blocks - 62) * 64 + 1), (blocks - 62) * 64 + 1);
            CHECK.due("it is an extent of its own", x.node(2, 2), extents + 1);
            CHECK.due("the least free one", x.node(2, 3 + 2 * extents), 61);
        }
    }

    private static void takeBehind255() {
        CHECK.sentence("its extent has fewer than 255");
        Tree x = new Tree(768);
        Check.file(x, 1, 254 * 64);
        CHECK.due("254", x.node(1, 4), 254);
        x.cut(1, 255 * 64);
        CHECK.due("255", x.node(1, 2) * 1000 + x.node(1, 4), 1255);
        x.cut(1, 256 * 64);
        CHECK.dueInode("256", x, 1, 1, 2, 0, 64, 60, 0, 255, 59, 1, 1);
        x.cut(1, 257 * 64);
        CHECK.dueInode("257", x, 1, 1, 2, 64, 64, 60, 0, 255, 59, 1, 2);
        Tree y = new Tree(768);
        y.make(0, 2, false);
        y.cut(1, 64);
        y.make(0, 1, false);
        for (int size = 1024; size < 255 * 64; size += 1024) {
            y.cut(2, size);
        }
        y.cut(2, 255 * 64);
        y.cut(1, 0);
        CHECK.due("with a lesser one free", y.cut(2, 256 * 64), 256 * 64);
        CHECK.dueInode("that one is taken", y, 2, 1, 2, 0, 64, 61, 0, 255, 60, 0, 1);
    }

    private static void takeWhenThereIsNone() {
        CHECK.sentence("It cannot when there is none");
        Tree x = new Tree(96);
        Check.file(x, 1, 35 * 64);
        CHECK.due("the last one", x.cut(1, 35 * 64 + 1), 35 * 64 + 1);
        CHECK.due("all of it", x.cut(1, 36 * 64), 36 * 64);
        CHECK.due("one more", x.cut(1, 36 * 64 + 1), -4);
        CHECK.due("one extent", x.node(1, 2), 1);
        CHECK.due("one back", x.cut(1, 35 * 64), 35 * 64);
        CHECK.due("and again", x.cut(1, 36 * 64), 36 * 64);
    }

    private static void takeANinthExtent() {
        CHECK.sentence("or it would be a ninth extent");
        Tree x = byTurns(96, 8);
        CHECK.due("blocks free", x.look(1), 20);
        CHECK.due("a ninth", x.cut(1, 513), -4);
        x.feed(1, 1);
        CHECK.due("a ninth by write", x.write(1, 512), -4);
        CHECK.due("still eight", x.node(1, 2), 8);
        CHECK.due("the eighth can grow", x.cut(2, 513), 513);
        CHECK.due("eight, the last of two", x.node(2, 2) * 100 + x.node(2, 18), 802);
        x.cut(2, 448);
        CHECK.due("now this one's too", x.cut(1, 576), 576);
        CHECK.due("it has taken 75", x.node(1, 17) * 100 + x.node(1, 18), 7402);
    }

    private static void takeANinthExtentBehind255() {
        CHECK.sentence("a ninth extent, when the eighth has 255 and the one right behind it is free");
        Tree x = byTurns(768, 7);
        for (int size = 512; size < 262 * 64; size += 1024) {
            CHECK.due("grow", x.cut(1, size), size);
        }
        CHECK.due("to 255 in the eighth", x.cut(1, 262 * 64), 262 * 64);
        CHECK.due("the eighth", x.node(1, 2) * 1000 + x.node(1, 18), 8255);
        CHECK.due("one more", x.cut(1, 262 * 64 + 1), -4);
        CHECK.due("its size stays", x.node(1, 1), 262 * 64);
        CHECK.due("the eighth stays", x.node(1, 2) * 1000 + x.node(1, 18), 8255);
    }

    private static void takenBlocksHave0s() {
        CHECK.sentence("The block has 0s then");
        Tree x = new Tree(96);
        x.make(0, 1, false);
        Check.feedFull(x, 192);
        x.write(1, 0);
        x.commit();
        x.cut(1, 0);
        CHECK.due("free, it has what is committed", x.at(60, 0, false), 255);
        x.feed(1, 7);
        x.write(1, 0);
        CHECK.due("taken by write", x.read(1, 0), 7);
        x.cut(1, 65);
        CHECK.due("taken by cut", x.read(1, 64), 0);
        x.make(0, 2, true);
        CHECK.due("taken by make", x.make(2, 3, false), 3);
        CHECK.due("the directory's block", x.node(2, 3), 62);
        for (int k = 0; k < 64; k++) {
            CHECK.due("60, byte " + k, x.at(60, k, false), k == 0 ? 7 : 0);
            CHECK.due("61, byte " + k, x.at(61, k, false), 0);
            CHECK.due("62, byte " + k, x.at(62, k, false), k == 0 || k == 2 ? 3 : 0);
        }
        CHECK.due("all of them are still committed", x.at(60, 63, true) + x.at(61, 0, true) + x.at(62, 63, true), 765);
    }

    private static void givenBackFromTheEnd() {
        CHECK.sentence("Blocks are given back from the end on");
        Tree x = byTurns(96, 2);
        x.cut(2, 320);
        CHECK.dueInode("five blocks", x, 2, 1, 2, 64, 1, 61, 0, 1, 63, 0, 4);
        CHECK.dueBytes("the map", x, 57, 7, 0xff, 0x07);
        x.cut(2, 257);
        CHECK.dueInode("still five", x, 2, 1, 2, 1, 1, 61, 0, 1, 63, 0, 4);
        x.cut(2, 256);
        CHECK.dueInode("four", x, 2, 1, 2, 0, 1, 61, 0, 1, 63, 0, 3);
        CHECK.dueBytes("the map without 66", x, 57, 7, 0xff, 0x03);
        x.cut(2, 65);
        CHECK.dueInode("two", x, 2, 1, 2, 65, 0, 61, 0, 1, 63, 0, 1);
        CHECK.dueBytes("the map without 64, 65", x, 57, 7, 0xff, 0);
        x.cut(2, 64);
        CHECK.dueInode("one", x, 2, 1, 1, 64, 0, 61, 0, 1);
        CHECK.dueBytes("the map without 63", x, 57, 7, 0x7f, 0);
        x.cut(2, 0);
        CHECK.dueInode("none", x, 2, 1);
        CHECK.dueBytes("the map without 61", x, 57, 7, 0x5f, 0);
    }
}
