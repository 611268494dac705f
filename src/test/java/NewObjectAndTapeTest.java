/** Promises 1 and 2: a new object; feed. */
public final class NewObjectAndTapeTest {
    private static final Check CHECK = new Check();

    public static void main(String[] args) {
        promise1Blocks();
        promise1Bytes();
        promise2Bytes();
        promise2Full();
        promise2Wrong();
        CHECK.end();
    }

    private static void promise1Blocks() {
        int[][] wantedAndDue = {
            {96, 96}, {97, 97}, {511, 511}, {512, 512}, {513, 513}, {767, 767}, {768, 768}, {95, 96}, {769, 96},
            {0, 96}, {-1, 96}, {-768, 96}, {Integer.MAX_VALUE, 96}, {Integer.MIN_VALUE, 96},
        };
        for (int[] pair : wantedAndDue) {
            Tree x = new Tree(pair[0]);
            String made = "of " + pair[0] + " blocks ";
            int[] due = {pair[1], pair[1] - 59, 63, 0, 0, 0, 1};
            for (int what = 0; what < due.length; what++) {
                CHECK.due(made + "look(" + what + ")", x.look(what), due[what]);
            }
            CHECK.due(made + "the last byte", x.at(pair[1] - 1, 63, false), 0);
            CHECK.dueThrow(made + "at behind it", IllegalArgumentException.class, () -> x.at(pair[1], 0, false));
        }
    }

    private static void promise1Bytes() {
        for (int blocks : new int[] {96, 768}) {
            Replay x = new Replay(blocks, made -> { });
            for (int place = 0; place < 64 * blocks; place++) {
                int due = place == 25 * 64 ? 2
                    : place >= 57 * 64 && place < 57 * 64 + 7 ? 255
                    : place == 57 * 64 + 7 ? 7 : 0;
                CHECK.due("new: byte " + place, x.at(place / 64, place % 64, false), due);
                CHECK.due("new: committed byte " + place, x.at(place / 64, place % 64, true), due);
            }
            Tree y = new Tree(blocks);
            CHECK.due("new: the root's kind", y.node(0, 0), 2);
            CHECK.due("new: the root's size", y.node(0, 1), 0);
            CHECK.due("new: the root's extents", y.node(0, 2), 0);
            CHECK.due("new: drop()", y.drop(), 0);
            CHECK.due("new: the root's kind after drop()", y.node(0, 0), 2);
        }
    }

    private static void promise2Bytes() {
        Tree x = new Tree(96);
        x.make(0, 1, false);
        int length = 0;
        for (int n = 1; n <= 8; n++) {
            length += n;
            CHECK.due("feed(" + n + ", ..)", x.feed(n, 0xf1e2d3c4b5a69788L), length);
        }
        CHECK.due("look(5)", x.look(5), 36);
        CHECK.due("write(1, 0)", x.write(1, 0), 36);
        CHECK.due("1, 2, 3 and two of 4 bytes", x.read(1, 0), 0x9788a6978897_88L << 8 | 0x88L);
        CHECK.due("the last eight", x.read(1, 28), 0xf1e2d3c4b5a69788L);
        CHECK.due("the seven before them", x.read(1, 21), 0x88e2d3c4b5a69788L);
        CHECK.due("look(5) after write", x.look(5), 0);
    }

    private static void promise2Full() {
        Tree x = new Tree(96);
        for (int i = 1; i <= 63; i++) {
            CHECK.due("feed " + i, x.feed(8, i), 8 * i);
        }
        CHECK.due("feed(1, 1) to 505", x.feed(1, 1), 505);
        CHECK.dueThrow("feed(8, 0) at 505", IllegalStateException.class, () -> x.feed(8, 0));
        CHECK.due("look(5) is still 505", x.look(5), 505);
        CHECK.due("feed(7, 0) to 512", x.feed(7, 0), 512);
        CHECK.dueThrow("feed(1, 0) at 512", IllegalStateException.class, () -> x.feed(1, 0));
        CHECK.dueThrow("feed(9, 0) at 512", IllegalArgumentException.class, () -> x.feed(9, 0));
        CHECK.due("look(5) is still 512", x.look(5), 512);
        x.commit();
        x.drop();
        CHECK.due("look(5) after commit and drop", x.look(5), 512);
    }

    private static void promise2Wrong() {
        Tree x = new Tree(96);
        for (int n : new int[] {0, 9, -1, Integer.MAX_VALUE, Integer.MIN_VALUE}) {
            CHECK.dueThrow("feed(" + n + ", 1)", IllegalArgumentException.class, () -> x.feed(n, 1));
        }
        CHECK.due("look(5)", x.look(5), 0);
    }
}
