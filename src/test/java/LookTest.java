import java.util.NoSuchElementException;

/** Promises 12, 13 and 15: node, at, look. */
public final class LookTest {
    private static final Check CHECK = new Check();

    public static void main(String[] args) {
        promise12Tells();
        promise12Wrong();
        promise13Tells();
        promise13Wrong();
        promise15Tells();
        promise15Wrong();
        CHECK.end();
    }

    /** File 1 with blocks 60, 61 and 63; file 2 with block 62. */
    private static Tree twoFiles() {
        Tree x = new Tree(96);
        x.make(0, 1, false);
        x.make(0, 2, false);
        x.cut(1, 128);
        x.cut(2, 10);
        x.cut(1, 150);
        return x;
    }

    private static void promise12Tells() {
        Tree x = twoFiles();
        int[] due = {1, 150, 2, 60, 2, 63, 1};
        for (int what = 0; what < due.length; what++) {
            CHECK.due("node(1, " + what + ")", x.node(1, what), due[what]);
        }
        CHECK.due("node(0, 0)", x.node(0, 0), 2);
        for (int what = 0; what < 3; what++) {
            CHECK.due("of a free one: node(63, " + what + ")", x.node(63, what), 0);
        }
        int[] bytes = {1, 2, 150, 0, 60, 0, 2, 63, 0, 1, 0, 0};
        for (int k = 0; k < bytes.length; k++) {
            CHECK.due("inode 1's byte " + k, x.at(25, 32 + k, false), bytes[k]);
        }
    }

    private static void promise12Wrong() {
        Tree x = twoFiles();
        Class<NoSuchElementException> none = NoSuchElementException.class;
        for (int what : new int[] {-1, 7, 8, 18, 19, Integer.MAX_VALUE, Integer.MIN_VALUE}) {
            CHECK.dueThrow("node(1, " + what + ")", none, () -> x.node(1, what));
        }
        CHECK.dueThrow("of a free one: node(63, 3)", none, () -> x.node(63, 3));
        for (int inode : new int[] {-1, 64, Integer.MAX_VALUE, Integer.MIN_VALUE}) {
            CHECK.dueThrow("node(" + inode + ", -1)", IllegalArgumentException.class, () -> x.node(inode, -1));
        }
    }

    private static void promise13Tells() {
        Tree x = twoFiles();
        CHECK.due("the map now", x.at(57, 7, false), 0xff);
        CHECK.due("the map as committed", x.at(57, 7, true), 7);
        x.feed(8, 0xf0e0d0c0b0a09080L);
        x.write(2, 2);
        for (int k = 0; k < 8; k++) {
            CHECK.due("byte " + k + " now", x.at(62, 2 + k, false), 0x80 + 0x10 * k);
            CHECK.due("byte " + k + " as committed", x.at(62, 2 + k, true), 0);
        }
        x.commit();
        CHECK.due("committed then", x.at(62, 9, true), 0xf0);
        CHECK.due("below 25 nothing is", x.at(0, 0, true) + x.at(24, 63, false), 0);
    }

    private static void promise13Wrong() {
        Tree x = new Tree(100);
        Class<IllegalArgumentException> wrong = IllegalArgumentException.class;
        for (int bad : new int[] {-1, 100, 768, Integer.MAX_VALUE, Integer.MIN_VALUE}) {
            CHECK.dueThrow("at(" + bad + ", 0, false)", wrong, () -> x.at(bad, 0, false));
            CHECK.dueThrow("at(" + bad + ", 0, true)", wrong, () -> x.at(bad, 0, true));
        }
        for (int bad : new int[] {-1, 64, Integer.MAX_VALUE, Integer.MIN_VALUE}) {
            CHECK.dueThrow("at(57, " + bad + ", false)", wrong, () -> x.at(57, bad, false));
            CHECK.dueThrow("at(57, " + bad + ", true)", wrong, () -> x.at(57, bad, true));
        }
        CHECK.due("the last one", x.at(99, 63, true), 0);
    }

    private static void promise15Tells() {
        Tree x = new Tree(100);
        x.make(0, 1, true);
        x.make(1, 1, true);
        x.make(2, 1, false);
        x.cut(3, 130);
        x.feed(7, 0);
        int[] due = {100, 35, 60, 6, 0, 7, 3};
        for (int what = 0; what < due.length; what++) {
            CHECK.due("look(" + what + ")", x.look(what), due[what]);
        }
    }

    private static void promise15Wrong() {
        Tree x = new Tree(96);
        for (int what : new int[] {-1, 7, Integer.MAX_VALUE, Integer.MIN_VALUE}) {
            CHECK.dueThrow("look(" + what + ")", NoSuchElementException.class, () -> x.look(what));
        }
    }
}
