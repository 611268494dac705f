/** Counts and prints the calls whose answer is not the one that is due. */
final class Check {
    interface Call {
        long answer();
    }

    private int wrong = 0;

    void due(String call, long got, long want) {
        if (got != want) {
            tell(call + " answered " + got + ", due is " + want);
        }
    }

    void dueThrow(String call, Class<? extends RuntimeException> want, Call made) {
        try {
            tell(call + " answered " + made.answer() + ", due is " + want.getSimpleName());
        } catch (RuntimeException e) {
            if (e.getClass() != want) {
                tell(call + " threw " + e + ", due is " + want.getSimpleName());
            }
        }
    }

    void tell(String fault) {
        wrong++;
        System.out.println(fault);
    }

    int wrong() {
        return wrong;
    }

    /** Ends the test, with exit code 1 if an answer was wrong. */
    void end() {
        System.out.println(wrong == 0 ? "all answers are as due" : wrong + " answers are not as due");
        if (wrong != 0) {
            System.exit(1);
        }
    }

    /** Feeds so many bytes, byte i being (first + i) mod 256. */
    static void feed(TreeFiles x, int count, int first) {
        for (int i = 0; i < count; i++) {
            x.feed(1, first + i);
        }
    }

    /** A file of that size in the root; it grows by the 1024 bytes that a call allows. */
    static int file(TreeFiles x, int name, int size) {
        int inode = x.make(0, name, false);
        for (int grown = 0; grown < size; grown += 1024) {
            x.cut(inode, Math.min(size, grown + 1024));
        }
        return inode;
    }
}
