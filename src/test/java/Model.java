import java.util.ArrayList;
import java.util.List;

/**
 * The document's tree told a second time, by other means: nodes with lists of blocks and bytes, copied whole before
 * each operation, from which the bytes of all blocks are worked out anew each time they are asked for.
 */
final class Model {
    static final class Node {
        int kind = 0;
        List<Integer> blocks = new ArrayList<>();
        List<Integer> bytes = new ArrayList<>();

        Node copy() {
            Node n = new Node();
            n.kind = kind;
            n.blocks.addAll(blocks);
            n.bytes.addAll(bytes);
            return n;
        }

        /** Each extent's first block and how many it has, as the rows of blocks show them. */
        List<int[]> extents() {
            List<int[]> extents = new ArrayList<>();
            for (int block : blocks) {
                int[] last = extents.isEmpty() ? null : extents.get(extents.size() - 1);
                if (last != null && last[0] + last[1] == block && last[1] < 255) {
                    last[1]++;
                } else {
                    extents.add(new int[] {block, 1});
                }
            }
            return extents;
        }

        int name(int entry) {
            return bytes.get(4 * entry) + 256 * bytes.get(4 * entry + 1);
        }

        int entry(int name) {
            for (int e = 0; e < bytes.size() / 4; e++) {
                if (name(e) == name) {
                    return e;
                }
            }
            return -1;
        }

        int inode(int entry) {
            return bytes.get(4 * entry + 2);
        }

        void put(int entry, int name, int inode) {
            bytes.set(4 * entry, name % 256);
            bytes.set(4 * entry + 1, name / 256);
            bytes.set(4 * entry + 2, inode);
        }

        boolean holdsEntries() {
            return kind == 2 && bytes.stream().anyMatch(b -> b != 0);
        }
    }

    final int limit;
    final List<Integer> tape = new ArrayList<>();
    int commitsFirst = 0;
    private Node[] nodes = new Node[64];
    private Node[] committedNodes;
    private int[][] committed;

    Model(int blocks) {
        limit = blocks < 96 || blocks > 768 ? 96 : blocks;
        for (int i = 0; i < 64; i++) {
            nodes[i] = new Node();
        }
        nodes[0].kind = 2;
        committed = new int[limit][64];
        committed = bytes(nodes);
        committedNodes = copy(nodes);
    }

    private static Node[] copy(Node[] nodes) {
        Node[] copies = new Node[64];
        for (int i = 0; i < 64; i++) {
            copies[i] = nodes[i].copy();
        }
        return copies;
    }

    Node node(int i) {
        return nodes[i];
    }

    int[][] committed() {
        return committed;
    }

    int[][] now() {
        return bytes(nodes);
    }

    boolean[] taken(Node[] of) {
        boolean[] taken = new boolean[limit];
        for (int b = 0; b < 59; b++) {
            taken[b] = true;
        }
        for (Node n : of) {
            for (int b : n.blocks) {
                taken[b] = true;
            }
        }
        return taken;
    }

    int freeBlocks() {
        int free = 0;
        for (boolean t : taken(nodes)) {
            free += t ? 0 : 1;
        }
        return free;
    }

    int ofKind(int kind) {
        int count = 0;
        for (Node n : nodes) {
            count += n.kind == kind ? 1 : 0;
        }
        return count;
    }

    private int[][] bytes(Node[] of) {
        int[][] bytes = new int[limit][64];
        boolean[] taken = taken(of);
        for (int b = 0; b < limit; b++) {
            if (taken[b]) {
                bytes[57 + b / 512][b / 8 % 64] |= 1 << b % 8;
            } else {
                bytes[b] = committed[b].clone();
            }
        }
        for (int i = 0; i < 64; i++) {
            Node n = of[i];
            int[] row = bytes[25 + i / 2];
            int k = 32 * (i % 2);
            row[k++] = n.kind;
            row[k++] = n.extents().size();
            row[k++] = n.bytes.size() % 256;
            row[k++] = n.bytes.size() / 256;
            for (int[] extent : n.extents()) {
                row[k++] = extent[0] % 256;
                row[k++] = extent[0] / 256;
                row[k++] = extent[1];
            }
            for (int o = 0; o < n.bytes.size(); o++) {
                bytes[n.blocks.get(o / 64)][o % 64] = n.bytes.get(o);
            }
        }
        return bytes;
    }

    List<Integer> changed() {
        List<Integer> changed = new ArrayList<>();
        int[][] now = now();
        boolean[] taken = taken(nodes);
        for (int b = 25; b < limit; b++) {
            if (taken[b] && !java.util.Arrays.equals(now[b], committed[b])) {
                changed.add(b);
            }
        }
        return changed;
    }

    int commit() {
        int count = changed().size();
        committed = now();
        committedNodes = copy(nodes);
        return count;
    }

    int drop() {
        int count = changed().size();
        nodes = copy(committedNodes);
        return count;
    }

    /** Ends an operation: the nodes were these before it. */
    private int end(int answer, Node[] before) {
        if (answer < 0) {
            nodes = before;
            return answer;
        }
        if (changed().size() > 24) {
            Node[] after = nodes;
            nodes = before;
            commit();
            commitsFirst++;
            nodes = after;
        }
        return answer;
    }

    private boolean resize(Node n, int size) {
        while (n.bytes.size() > size) {
            n.bytes.remove(n.bytes.size() - 1);
        }
        while (n.blocks.size() * 64 >= size + 64) {
            n.blocks.remove(n.blocks.size() - 1);
        }
        while (n.blocks.size() * 64 < size) {
            if (!take(n)) {
                return false;
            }
        }
        while (n.bytes.size() < size) {
            n.bytes.add(0);
        }
        return true;
    }

    private boolean take(Node n) {
        boolean[] taken = taken(nodes);
        List<int[]> extents = n.extents();
        if (!extents.isEmpty()) {
            int[] last = extents.get(extents.size() - 1);
            int behind = last[0] + last[1];
            if (behind < limit && !taken[behind] && last[1] < 255) {
                n.blocks.add(behind);
                return true;
            }
        }
        for (int b = 0; b < limit; b++) {
            if (!taken[b]) {
                n.blocks.add(b);
                return extents.size() < 8;
            }
        }
        return false;
    }

    private boolean enter(Node directory, int name, int inode) {
        int entry = directory.entry(0);
        if (entry < 0) {
            entry = directory.bytes.size() / 4;
            if (!resize(directory, directory.bytes.size() + 64)) {
                return false;
            }
        }
        directory.put(entry, name, inode);
        return true;
    }

    private boolean within(int top, int sought) {
        if (top == sought) {
            return true;
        }
        Node n = nodes[top];
        for (int e = 0; n.kind == 2 && e < n.bytes.size() / 4; e++) {
            if (n.name(e) != 0 && within(n.inode(e), sought)) {
                return true;
            }
        }
        return false;
    }

    private int fault(int inode, int kind) {
        return nodes[inode].kind == 0 ? -1 : nodes[inode].kind != kind ? -5 : 0;
    }

    int make(int directory, int name, boolean asDirectory) {
        Node[] before = copy(nodes);
        return end(makeNow(directory, name, asDirectory), before);
    }

    private int makeNow(int directory, int name, boolean asDirectory) {
        if (fault(directory, 2) < 0) {
            return fault(directory, 2);
        }
        if (nodes[directory].entry(name) >= 0) {
            return -2;
        }
        int inode = 1;
        while (inode < 64 && nodes[inode].kind != 0) {
            inode++;
        }
        if (inode == 64) {
            return -3;
        }
        nodes[inode].kind = asDirectory ? 2 : 1;
        return enter(nodes[directory], name, inode) ? inode : -4;
    }

    int find(int directory, int name) {
        if (fault(directory, 2) < 0) {
            return fault(directory, 2);
        }
        int entry = nodes[directory].entry(name);
        return entry < 0 ? -1 : nodes[directory].inode(entry);
    }

    int write(int inode, int offset) {
        Node[] before = copy(nodes);
        int answer = end(writeNow(nodes[inode], fault(inode, 1), offset), before);
        tape.clear();
        return answer;
    }

    private int writeNow(Node n, int fault, int offset) {
        if (fault < 0) {
            return fault;
        }
        if (offset < 0 || offset > n.bytes.size()) {
            return -8;
        }
        if (offset + tape.size() > n.bytes.size() && !resize(n, offset + tape.size())) {
            return -4;
        }
        for (int i = 0; i < tape.size(); i++) {
            n.bytes.set(offset + i, tape.get(i));
        }
        return n.bytes.size();
    }

    int cut(int inode, int size) {
        if (fault(inode, 1) < 0) {
            return fault(inode, 1);
        }
        if (size < 0 || (long) size - nodes[inode].bytes.size() > 1024) {
            return -8;
        }
        Node[] before = copy(nodes);
        return end(resize(nodes[inode], size) ? size : -4, before);
    }

    /** Null where there is no byte. */
    Long read(int inode, int offset) {
        List<Integer> bytes = nodes[inode].bytes;
        if (offset < 0 || offset >= bytes.size()) {
            return null;
        }
        long number = 0;
        for (int i = 7; i >= 0; i--) {
            number = number << 8 | (offset + i < bytes.size() ? bytes.get(offset + i) : 0);
        }
        return number;
    }

    int move(int directory, int name, int toDirectory, int toName) {
        Node[] before = copy(nodes);
        return end(moveNow(directory, name, toDirectory, toName), before);
    }

    private int moveNow(int directory, int name, int toDirectory, int toName) {
        int from = find(directory, name);
        if (from < 0) {
            return from;
        }
        if (fault(toDirectory, 2) < 0) {
            return fault(toDirectory, 2);
        }
        Node source = nodes[directory];
        Node target = nodes[toDirectory];
        int there = target.entry(toName);
        if (there >= 0) {
            int other = target.inode(there);
            if (other == from) {
                return 0;
            }
            if (nodes[other].kind != nodes[from].kind) {
                return -5;
            }
            if (nodes[other].holdsEntries()) {
                return -6;
            }
        }
        if (within(from, toDirectory)) {
            return -7;
        }
        if (there >= 0) {
            nodes[target.inode(there)] = new Node();
            target.put(there, toName, from);
            source.put(source.entry(name), 0, 0);
            return 0;
        }
        source.put(source.entry(name), 0, 0);
        return enter(target, toName, from) ? 0 : -4;
    }

    int remove(int directory, int name) {
        int inode = find(directory, name);
        if (inode < 0) {
            return inode;
        }
        if (nodes[inode].holdsEntries()) {
            return -6;
        }
        Node[] before = copy(nodes);
        nodes[inode] = new Node();
        nodes[directory].put(nodes[directory].entry(name), 0, 0);
        return end(0, before);
    }
}
