import java.util.NoSuchElementException;

/**
 * A tree of files and directories in blocks, whose changes are committed as a whole or dropped.
 * The face checks arguments and chooses answers; Disk, Inodes and Directories hold the tree.
 */
public final class TreeFiles {
    private static final int LEAST_BLOCKS = 96;
    private static final int MOST_BLOCKS = 768;
    private static final int BLOCK_BYTES = 64;
    private static final int MOST_CHANGED = 24;

    private static final int INODES = 64;
    private static final int ROOT = 0;
    private static final int MOST_NAME = 65535;
    private static final int MOST_TAPE = 512;
    private static final int MOST_GROWTH = 1024;
    private static final int READ_BYTES = 8;

    private static final int KIND_FREE = 0;
    private static final int KIND_FILE = 1;
    private static final int KIND_DIRECTORY = 2;

    private static final int NOT_THERE = -1;
    private static final int NAME_IN_USE = -2;
    private static final int NO_INODE = -3;
    private static final int NO_BLOCK = -4;
    private static final int OTHER_KIND = -5;
    private static final int NOT_EMPTY = -6;
    private static final int INTO_ITSELF = -7;
    private static final int OUT_OF_BOUNDS = -8;

    /** Stands for a block, an inode or an entry that there is not. */
    private static final int NONE = -1;

    private final Disk disk;
    private final Inodes inodes;
    private final Directories directories;
    private final int[] tape;
    private int tapeLength;

    public TreeFiles(int blocks) {
        disk = new Disk(blocks);
        inodes = new Inodes(disk);
        directories = new Directories(disk, inodes);
        tape = new int[MOST_TAPE];
        tapeLength = 0;
        inodes.begin(ROOT, KIND_DIRECTORY);
        disk.settle();
        disk.commitAll();
    }

    public int feed(int n, long v) throws IllegalArgumentException, IllegalStateException {
        if (n < 1 || n > 8) {
            throw new IllegalArgumentException("n is not 1 .. 8");
        }
        if (tapeLength + n > MOST_TAPE) {
            throw new IllegalStateException("the tape would have more than 512 bytes");
        }
        for (int i = 0; i < n; i++) {
            tape[tapeLength + i] = (int) (v >>> (8 * i)) & 255;
        }
        tapeLength += n;
        return tapeLength;
    }

    public int make(int directory, int name, boolean asDirectory) throws IllegalArgumentException {
        checkInode(directory);
        checkName(name);
        int fault = kindFault(directory, KIND_DIRECTORY);
        if (fault < 0) {
            return fault;
        }
        if (directories.entryNamed(directory, name) != NONE) {
            return NAME_IN_USE;
        }
        int inode = inodes.leastFree();
        if (inode == NONE) {
            return NO_INODE;
        }
        if (!directories.addEntry(directory, name, inode)) {
            disk.undo();
            return NO_BLOCK;
        }
        inodes.begin(inode, asDirectory ? KIND_DIRECTORY : KIND_FILE);
        disk.settle();
        return inode;
    }

    public int find(int directory, int name) throws IllegalArgumentException {
        checkInode(directory);
        checkName(name);
        int entry = entryOrFault(directory, name);
        return entry < 0 ? entry : directories.inodeOf(entry);
    }

    public int write(int inode, int offset) throws IllegalArgumentException {
        checkInode(inode);
        int length = tapeLength;
        tapeLength = 0;
        int fault = kindFault(inode, KIND_FILE);
        if (fault < 0) {
            return fault;
        }
        int size = inodes.size(inode);
        if (offset < 0 || offset > size) {
            return OUT_OF_BOUNDS;
        }
        int newSize = Math.max(size, offset + length);
        if (!inodes.resize(inode, newSize)) {
            disk.undo();
            return NO_BLOCK;
        }
        for (int i = 0; i < length; i++) {
            disk.setByte(inodes.placeOf(inode, offset + i), tape[i]);
        }
        disk.settle();
        return newSize;
    }

    public int cut(int inode, int size) throws IllegalArgumentException {
        checkInode(inode);
        int fault = kindFault(inode, KIND_FILE);
        if (fault < 0) {
            return fault;
        }
        if (size < 0 || size > inodes.size(inode) + MOST_GROWTH) {
            return OUT_OF_BOUNDS;
        }
        if (!inodes.resize(inode, size)) {
            disk.undo();
            return NO_BLOCK;
        }
        disk.settle();
        return size;
    }

    public long read(int inode, int offset) throws IllegalArgumentException, NoSuchElementException {
        checkInode(inode);
        // A free inode has size 0, so it has no byte anywhere.
        if (offset < 0 || offset >= inodes.size(inode)) {
            throw new NoSuchElementException("there is no byte there");
        }
        long number = 0;
        for (int i = 0; i < READ_BYTES; i++) {
            number |= (long) disk.byteAt(inodes.placeOf(inode, offset + i)) << (8 * i);
        }
        return number;
    }

    public int move(int directory, int name, int toDirectory, int toName) throws IllegalArgumentException {
        checkInode(directory);
        checkName(name);
        checkInode(toDirectory);
        checkName(toName);
        int entry = entryOrFault(directory, name);
        if (entry < 0) {
            return entry;
        }
        int fault = kindFault(toDirectory, KIND_DIRECTORY);
        if (fault < 0) {
            return fault;
        }
        if (directory == toDirectory && name == toName) {
            return 0;
        }
        int inode = directories.inodeOf(entry);
        int toEntry = directories.entryNamed(toDirectory, toName);
        fault = moveFault(inode, toDirectory, toEntry);
        if (fault < 0) {
            return fault;
        }
        directories.clearEntry(entry);
        if (toEntry != NONE) {
            inodes.release(directories.inodeOf(toEntry));
            directories.setEntry(toEntry, toName, inode);
        } else if (!directories.addEntry(toDirectory, toName, inode)) {
            disk.undo();
            return NO_BLOCK;
        }
        disk.settle();
        return 0;
    }

    public int remove(int directory, int name) throws IllegalArgumentException {
        checkInode(directory);
        checkName(name);
        int entry = entryOrFault(directory, name);
        if (entry < 0) {
            return entry;
        }
        int inode = directories.inodeOf(entry);
        if (hasEntries(inode)) {
            return NOT_EMPTY;
        }
        directories.clearEntry(entry);
        inodes.release(inode);
        disk.settle();
        return 0;
    }

    public int commit() {
        int count = disk.differingBlocks();
        disk.commitAll();
        return count;
    }

    public int drop() {
        int count = disk.differingBlocks();
        disk.dropAll();
        return count;
    }

    public int node(int inode, int what) throws IllegalArgumentException, NoSuchElementException {
        checkInode(inode);
        if (what < 0 || what >= 3 + 2 * inodes.extents(inode)) {
            throw new NoSuchElementException("there is no such extent or what");
        }
        switch (what) {
            case 0:
                return inodes.kind(inode);
            case 1:
                return inodes.size(inode);
            case 2:
                return inodes.extents(inode);
            default:
                int extent = (what - 3) / 2;
                return what % 2 == 1 ? inodes.extentFirst(inode, extent) : inodes.extentLength(inode, extent);
        }
    }

    public int at(int block, int k, boolean committed) throws IllegalArgumentException {
        if (!disk.hasByte(block, k)) {
            throw new IllegalArgumentException("there is no such block or byte");
        }
        int place = block * BLOCK_BYTES + k;
        return committed ? disk.committedByteAt(place) : disk.byteAt(place);
    }

    public int changed(int i) throws NoSuchElementException {
        int block = disk.differingBlock(i);
        if (block == NONE) {
            throw new NoSuchElementException("there is no such changed block");
        }
        return block;
    }

    public int look(int what) throws NoSuchElementException {
        switch (what) {
            case 0:
                return disk.blocks();
            case 1:
                return disk.freeBlocks();
            case 2:
                return inodes.ofKind(KIND_FREE);
            case 3:
                return disk.differingBlocks();
            case 4:
                return disk.earlyCommits();
            case 5:
                return tapeLength;
            case 6:
                return inodes.ofKind(KIND_DIRECTORY);
            default:
                throw new NoSuchElementException("there is no such what");
        }
    }

    private static void checkInode(int inode) {
        if (inode < 0 || inode >= INODES) {
            throw new IllegalArgumentException("an inode is not 0 .. 63");
        }
    }

    private static void checkName(int name) {
        if (name < 1 || name > MOST_NAME) {
            throw new IllegalArgumentException("a name is not 1 .. 65535");
        }
    }

    /** The answer for an inode that should be of a kind: 0 if it is. */
    private int kindFault(int inode, int kind) {
        int found = inodes.kind(inode);
        if (found == KIND_FREE) {
            return NOT_THERE;
        }
        return found == kind ? 0 : OTHER_KIND;
    }

    /** An entry's place, which is never below 0; otherwise the answer for it. */
    private int entryOrFault(int directory, int name) {
        int fault = kindFault(directory, KIND_DIRECTORY);
        if (fault < 0) {
            return fault;
        }
        int entry = directories.entryNamed(directory, name);
        return entry == NONE ? NOT_THERE : entry;
    }

    /** The answer for an inode that should come into a directory, onto toEntry if there is that: 0 if it may. */
    private int moveFault(int inode, int toDirectory, int toEntry) {
        boolean movesDirectory = inodes.kind(inode) == KIND_DIRECTORY;
        if (toEntry != NONE) {
            int replaced = directories.inodeOf(toEntry);
            if (movesDirectory != (inodes.kind(replaced) == KIND_DIRECTORY)) {
                return OTHER_KIND;
            }
            if (hasEntries(replaced)) {
                return NOT_EMPTY;
            }
        }
        return movesDirectory && directories.isWithin(toDirectory, inode) ? INTO_ITSELF : 0;
    }

    private boolean hasEntries(int inode) {
        return inodes.kind(inode) == KIND_DIRECTORY && !directories.isEmpty(inode);
    }

    /**
     * The blocks, with the map of what is taken. Each operation keeps what the blocks that it touches had before it,
     * until it is settled or undone. A byte's place is 64 * its block + its number there.
     *
     * A block's bytes stand in eight longs, lowest byte first: that is an eighth of the elements, and the map's bit b
     * is then bit b mod 64 of the map's long b / 64.
     */
    private static final class Disk {
        private static final int BLOCK_LONGS = 8;
        private static final int LONG_BYTES = 8;
        private static final int LONG_BITS = 64;
        private static final int MAP_BLOCK = 57;
        private static final int MAP_BLOCK_BITS = 512;
        private static final int FIRST_FOR_FILES = 59;

        private final int blocks;
        private final long[] now;
        private final long[] committed;
        private final long[] before;
        private final boolean[] touched;
        /**
         * As no operation touches a block below 25, and a free block has what it has committed,
         * the blocks that differ are just the changed ones.
         */
        private final boolean[] differs;
        private int earlyCommits;

        Disk(int wanted) {
            blocks = wanted >= LEAST_BLOCKS && wanted <= MOST_BLOCKS ? wanted : LEAST_BLOCKS;
            now = new long[blocks * BLOCK_LONGS];
            committed = new long[blocks * BLOCK_LONGS];
            before = new long[blocks * BLOCK_LONGS];
            touched = new boolean[blocks];
            differs = new boolean[blocks];
            earlyCommits = 0;
            for (int block = 0; block < FIRST_FOR_FILES; block++) {
                flipMapBit(block);
            }
        }

        int blocks() {
            return blocks;
        }

        int earlyCommits() {
            return earlyCommits;
        }

        boolean hasByte(int block, int k) {
            return hasBlock(block) && k >= 0 && k < BLOCK_BYTES;
        }

        /** There are 0s where no block is. */
        int byteAt(int place) {
            if (place < 0 || place >= blocks * BLOCK_BYTES) {
                return 0;
            }
            return (int) (now[place / LONG_BYTES] >>> (place % LONG_BYTES * 8)) & 255;
        }

        int committedByteAt(int place) {
            if (place < 0 || place >= blocks * BLOCK_BYTES) {
                return 0;
            }
            return (int) (committed[place / LONG_BYTES] >>> (place % LONG_BYTES * 8)) & 255;
        }

        int pairAt(int place) {
            return byteAt(place) + 256 * byteAt(place + 1);
        }

        void setByte(int place, int value) {
            if (place >= 0 && place < blocks * BLOCK_BYTES) {
                touch(place / BLOCK_BYTES);
                int shift = place % LONG_BYTES * 8;
                long others = now[place / LONG_BYTES] & ~(255L << shift);
                now[place / LONG_BYTES] = others | (value & 255L) << shift;
            }
        }

        void setPair(int place, int value) {
            setByte(place, value);
            setByte(place + 1, value >>> 8);
        }

        boolean isFree(int block) {
            return hasBlock(block) && (now[mapLongOf(block)] >>> (block % LONG_BITS) & 1L) == 0;
        }

        int leastFree() {
            for (int block = FIRST_FOR_FILES; block < blocks; block++) {
                if (isFree(block)) {
                    return block;
                }
            }
            return NONE;
        }

        int freeBlocks() {
            int count = 0;
            for (int block = FIRST_FOR_FILES; block < blocks; block++) {
                if (isFree(block)) {
                    count++;
                }
            }
            return count;
        }

        void takeBlock(int block) {
            if (isFree(block)) {
                touch(block);
                for (int i = 0; i < BLOCK_LONGS; i++) {
                    now[block * BLOCK_LONGS + i] = 0;
                }
                flipMapBit(block);
            }
        }

        void giveBlockBack(int block) {
            if (hasBlock(block) && !isFree(block)) {
                touch(block);
                copyBlock(committed, now, block);
                flipMapBit(block);
            }
        }

        /** Ends an operation that has succeeded. */
        void settle() {
            for (int block = 0; block < blocks; block++) {
                if (touched[block]) {
                    compare(block);
                }
            }
            if (differingBlocks() > MOST_CHANGED) {
                commitWhatWasBefore();
            }
            forgetTouched();
        }

        /** Ends an operation that has failed: nothing of it stays. */
        void undo() {
            for (int block = 0; block < blocks; block++) {
                if (touched[block]) {
                    copyBlock(before, now, block);
                }
            }
            forgetTouched();
        }

        void commitAll() {
            makeAlike(now, committed);
        }

        void dropAll() {
            makeAlike(committed, now);
        }

        int differingBlocks() {
            int count = 0;
            for (int block = 0; block < blocks; block++) {
                if (differs[block]) {
                    count++;
                }
            }
            return count;
        }

        int differingBlock(int i) {
            int passed = 0;
            for (int block = 0; block < blocks; block++) {
                if (differs[block]) {
                    if (passed == i) {
                        return block;
                    }
                    passed++;
                }
            }
            return NONE;
        }

        private void makeAlike(long[] from, long[] to) {
            for (int block = 0; block < blocks; block++) {
                if (differs[block]) {
                    copyBlock(from, to, block);
                    differs[block] = false;
                }
            }
        }

        /**
         * The operation's choices do not hang on what is committed, so it need not be done again:
         * only what it gave back must have the newly committed bytes.
         */
        private void commitWhatWasBefore() {
            for (int block = 0; block < blocks; block++) {
                copyBlock(touched[block] ? before : now, committed, block);
                if (isFree(block)) {
                    copyBlock(committed, now, block);
                }
                compare(block);
            }
            earlyCommits++;
        }

        private void compare(int block) {
            boolean unlike = false;
            for (int i = 0; i < BLOCK_LONGS; i++) {
                int place = block * BLOCK_LONGS + i;
                unlike = unlike || now[place] != committed[place];
            }
            differs[block] = unlike;
        }

        private void flipMapBit(int block) {
            touch(MAP_BLOCK + block / MAP_BLOCK_BITS);
            now[mapLongOf(block)] ^= 1L << (block % LONG_BITS);
        }

        private void touch(int block) {
            if (!touched[block]) {
                touched[block] = true;
                System.arraycopy(now, block * BLOCK_LONGS, before, block * BLOCK_LONGS, BLOCK_LONGS);
            }
        }

        private void forgetTouched() {
            for (int block = 0; block < blocks; block++) {
                touched[block] = false;
            }
        }

        private boolean hasBlock(int block) {
            return block >= 0 && block < blocks;
        }

        private static int mapLongOf(int block) {
            return MAP_BLOCK * BLOCK_LONGS + block / LONG_BITS;
        }

        private static void copyBlock(long[] from, long[] to, int block) {
            System.arraycopy(from, block * BLOCK_LONGS, to, block * BLOCK_LONGS, BLOCK_LONGS);
        }
    }

    /** The inodes, and where their bytes are. */
    private static final class Inodes {
        private static final int FIRST_INODE_PLACE = 25 * BLOCK_BYTES;
        private static final int INODE_BYTES = 32;
        private static final int EXTENTS_PLACE = 1;
        private static final int SIZE_PLACE = 2;
        private static final int FIRST_EXTENT_PLACE = 4;
        private static final int EXTENT_BYTES = 3;
        private static final int LENGTH_PLACE = 2;
        private static final int MOST_EXTENTS = 8;
        private static final int MOST_IN_EXTENT = 255;

        private final Disk disk;

        Inodes(Disk disk) {
            this.disk = disk;
        }

        int kind(int inode) {
            return disk.byteAt(inodePlace(inode));
        }

        int size(int inode) {
            return disk.pairAt(inodePlace(inode) + SIZE_PLACE);
        }

        int extents(int inode) {
            return disk.byteAt(inodePlace(inode) + EXTENTS_PLACE);
        }

        int extentFirst(int inode, int extent) {
            return disk.pairAt(extentPlace(inode, extent));
        }

        int extentLength(int inode, int extent) {
            return disk.byteAt(extentPlace(inode, extent) + LENGTH_PLACE);
        }

        int leastFree() {
            for (int inode = 0; inode < INODES; inode++) {
                if (kind(inode) == KIND_FREE) {
                    return inode;
                }
            }
            return NONE;
        }

        int ofKind(int kind) {
            int count = 0;
            for (int inode = 0; inode < INODES; inode++) {
                if (kind(inode) == kind) {
                    count++;
                }
            }
            return count;
        }

        /** Makes a free inode an empty one of a kind. */
        void begin(int inode, int kind) {
            disk.setByte(inodePlace(inode), kind);
        }

        /** Frees an inode, with its blocks. */
        void release(int inode) {
            resize(inode, 0);
            disk.setByte(inodePlace(inode), KIND_FREE);
        }

        /** Whether there were blocks enough; if not, the caller must undo. */
        boolean resize(int inode, int newSize) {
            int size = size(inode);
            int held = blocksFor(size);
            int needed = blocksFor(newSize);
            for (int n = held; n < needed; n++) {
                if (!takeBlock(inode)) {
                    return false;
                }
            }
            for (int n = held; n > needed; n--) {
                giveBlockBack(inode);
            }
            int end = Math.min(size, needed * BLOCK_BYTES);
            for (int offset = newSize; offset < end; offset++) {
                disk.setByte(placeOf(inode, offset), 0);
            }
            disk.setPair(inodePlace(inode) + SIZE_PLACE, newSize);
            return true;
        }

        /** The place on the disk of an inode's byte; NONE behind its last block. */
        int placeOf(int inode, int offset) {
            int left = offset;
            int extents = extents(inode);
            for (int extent = 0; extent < extents; extent++) {
                int bytes = extentLength(inode, extent) * BLOCK_BYTES;
                if (left < bytes) {
                    return extentFirst(inode, extent) * BLOCK_BYTES + left;
                }
                left -= bytes;
            }
            return NONE;
        }

        private boolean takeBlock(int inode) {
            int extents = extents(inode);
            if (extents > 0) {
                int length = extentLength(inode, extents - 1);
                int behind = extentFirst(inode, extents - 1) + length;
                if (length < MOST_IN_EXTENT && disk.isFree(behind)) {
                    disk.takeBlock(behind);
                    disk.setByte(extentPlace(inode, extents - 1) + LENGTH_PLACE, length + 1);
                    return true;
                }
            }
            int least = disk.leastFree();
            if (least == NONE || extents >= MOST_EXTENTS) {
                return false;
            }
            disk.takeBlock(least);
            disk.setByte(inodePlace(inode) + EXTENTS_PLACE, extents + 1);
            disk.setPair(extentPlace(inode, extents), least);
            disk.setByte(extentPlace(inode, extents) + LENGTH_PLACE, 1);
            return true;
        }

        private void giveBlockBack(int inode) {
            int last = extents(inode) - 1;
            if (last < 0) {
                return;
            }
            int length = extentLength(inode, last);
            disk.giveBlockBack(extentFirst(inode, last) + length - 1);
            disk.setByte(extentPlace(inode, last) + LENGTH_PLACE, length - 1);
            if (length == 1) {
                disk.setPair(extentPlace(inode, last), 0);
                disk.setByte(inodePlace(inode) + EXTENTS_PLACE, last);
            }
        }

        private static int blocksFor(int size) {
            return (size + BLOCK_BYTES - 1) / BLOCK_BYTES;
        }

        private static int inodePlace(int inode) {
            return FIRST_INODE_PLACE + INODE_BYTES * inode;
        }

        private static int extentPlace(int inode, int extent) {
            return inodePlace(inode) + FIRST_EXTENT_PLACE + EXTENT_BYTES * extent;
        }
    }

    /** The entries of directories, each known by its place on the disk. */
    private static final class Directories {
        private static final int ENTRY_BYTES = 4;
        private static final int INODE_PLACE = 2;
        private static final int NO_NAME = 0;

        private final Disk disk;
        private final Inodes inodes;
        /** Of each inode the directory that has its entry; filled anew before each use. */
        private final int[] parents;

        Directories(Disk disk, Inodes inodes) {
            this.disk = disk;
            this.inodes = inodes;
            parents = new int[INODES];
        }

        int entryNamed(int directory, int name) {
            int size = inodes.size(directory);
            for (int offset = 0; offset < size; offset += ENTRY_BYTES) {
                int entry = inodes.placeOf(directory, offset);
                if (disk.pairAt(entry) == name) {
                    return entry;
                }
            }
            return NONE;
        }

        int inodeOf(int entry) {
            return disk.byteAt(entry + INODE_PLACE);
        }

        boolean isEmpty(int directory) {
            int size = inodes.size(directory);
            for (int offset = 0; offset < size; offset += ENTRY_BYTES) {
                if (disk.pairAt(inodes.placeOf(directory, offset)) != NO_NAME) {
                    return false;
                }
            }
            return true;
        }

        /** Whether there was room for it; if not, the caller must undo. */
        boolean addEntry(int directory, int name, int inode) {
            int entry = entryNamed(directory, NO_NAME);
            if (entry == NONE) {
                int size = inodes.size(directory);
                if (!inodes.resize(directory, size + BLOCK_BYTES)) {
                    return false;
                }
                entry = inodes.placeOf(directory, size);
            }
            setEntry(entry, name, inode);
            return true;
        }

        void setEntry(int entry, int name, int inode) {
            disk.setPair(entry, name);
            disk.setByte(entry + INODE_PLACE, inode);
        }

        void clearEntry(int entry) {
            setEntry(entry, NO_NAME, 0);
        }

        /** Whether a directory is another one, or within it. */
        boolean isWithin(int directory, int other) {
            fillParents();
            int above = directory;
            for (int level = 0; level < INODES && above != ROOT && above != other; level++) {
                above = above > 0 && above < INODES ? parents[above] : ROOT;
            }
            return above == other;
        }

        private void fillParents() {
            for (int directory = 0; directory < INODES; directory++) {
                int size = inodes.kind(directory) == KIND_DIRECTORY ? inodes.size(directory) : 0;
                for (int offset = 0; offset < size; offset += ENTRY_BYTES) {
                    int inode = inodeOf(inodes.placeOf(directory, offset));
                    // An empty entry tells inode 0, the root, which is in no directory.
                    if (inode > ROOT && inode < INODES) {
                        parents[inode] = directory;
                    }
                }
            }
        }
    }
}
