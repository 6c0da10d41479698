/**
 * Objects on three nodes that refer to one another across the nodes; every node collects by itself, times go along
 * the references from roots on, and what is reached by old times alone, rings across nodes among it, goes.
 */
public final class StampedHeaps {
    public static final int NONE = -1;
    public static final int NEVER = 2147483647;

    private static final int NODES = 3;
    private static final int ROOTS = 3;
    private static final int FIELDS = 2;
    private static final int OBJECTS = 8;
    private static final int MESSAGES = 40;

    private final int[] roots = new int[NODES * ROOTS];
    private final Heap heap = new Heap();
    private final Exits exits = new Exits();
    private final Queue queue = new Queue();
    private final int[] lasts = new int[NODES];
    private final int[] lows = new int[NODES];
    /** The greatest stamp with which the object in a slot is reached, of use only while a node is collected. */
    private final int[] reached = new int[NODES * OBJECTS];
    private int clock;
    private int threshold;

    public StampedHeaps() {
        for (int n = 0; n < NODES; n++) {
            lows[n] = NEVER;
        }
    }

    public int make(int n, int r, int owner) {
        if (!isRoot(n, r) || !isNode(owner) || heap.countOn(owner) >= OBJECTS) {
            return NONE;
        }
        clock++;
        int number = heap.add(owner);
        roots[n * ROOTS + r] = number;
        carry(number, owner, n);
        return number;
    }

    public int load(int n, int r, int f, int to) {
        if (!isRoot(n, r) || !isRoot(n, to) || !isField(f)) {
            return NONE;
        }
        int slot = heap.slotOf(roots[n * ROOTS + r]);
        if (slot == NONE) {
            return NONE;
        }
        clock++;
        int reference = heap.fieldAt(slot, f);
        roots[n * ROOTS + to] = reference;
        carry(reference, Heap.nodeOf(slot), n);
        return reference;
    }

    public boolean store(int n, int r, int f, int from) {
        if (!isRoot(n, r) || !isRoot(n, from) || !isField(f)) {
            return false;
        }
        int slot = heap.slotOf(roots[n * ROOTS + r]);
        if (slot == NONE) {
            return false;
        }
        clock++;
        int reference = roots[n * ROOTS + from];
        heap.setField(slot, f, reference);
        carry(reference, n, Heap.nodeOf(slot));
        return true;
    }

    public boolean move(int n, int r, int m, int q) {
        if (!isRoot(n, r) || !isRoot(m, q) || n == m) {
            return false;
        }
        clock++;
        int reference = roots[n * ROOTS + r];
        roots[m * ROOTS + q] = reference;
        carry(reference, n, m);
        return true;
    }

    public boolean drop(int n, int r) {
        if (!isRoot(n, r)) {
            return false;
        }
        clock++;
        roots[n * ROOTS + r] = 0;
        return true;
    }

    public int collect(int n) {
        if (!isNode(n) || queue.size() + exits.countOf(n) > MESSAGES) {
            return NONE;
        }
        clock++;
        reachFromRootsAndEntries(n);
        reachAlongFields(n);
        takeUnreachedExits(n);
        stampReachedExits(n);
        int freed = freeUnreached(n);
        lasts[n] = clock;
        lows[n] = NEVER;
        return freed;
    }

    public boolean deliver(int i) {
        if (!queue.has(i)) {
            return false;
        }
        int object = queue.part(i, Queue.OBJECT);
        int stamp = queue.part(i, Queue.NEW_STAMP);
        queue.removeAt(i);
        int slot = heap.slotOf(object);
        if (slot != NONE && heap.entryAt(slot) != NONE) {
            raise(slot, stamp);
        }
        return true;
    }

    public int round() {
        int least = NEVER;
        for (int n = 0; n < NODES; n++) {
            least = Math.min(least, redoOf(n));
        }
        threshold = Math.max(threshold, least);
        return heap.removeEntriesBelow(threshold);
    }

    public int root(int n, int r) {
        return isRoot(n, r) ? roots[n * ROOTS + r] : NONE;
    }

    public int field(int object, int f) {
        int slot = heap.slotOf(object);
        return slot != NONE && isField(f) ? heap.fieldAt(slot, f) : NONE;
    }

    public int owner(int object) {
        int slot = heap.slotOf(object);
        return slot != NONE ? Heap.nodeOf(slot) : NONE;
    }

    public int objects(int n) {
        return isNode(n) ? heap.countOn(n) : NONE;
    }

    public int entry(int object) {
        int slot = heap.slotOf(object);
        return slot != NONE ? heap.entryAt(slot) : NONE;
    }

    public int exit(int n, int object) {
        int row = exits.rowOf(n, object);
        return row != NONE ? exits.stampAt(row) : NONE;
    }

    public int messages() {
        return queue.size();
    }

    public int message(int i, int what) {
        return queue.has(i) && what >= 0 && what < Queue.PARTS ? queue.part(i, what) : NONE;
    }

    public int redo(int n) {
        return isNode(n) ? redoOf(n) : NONE;
    }

    public int threshold() {
        return threshold;
    }

    private static boolean isNode(int n) {
        return n >= 0 && n < NODES;
    }

    private static boolean isRoot(int n, int r) {
        return isNode(n) && r >= 0 && r < ROOTS;
    }

    private static boolean isField(int f) {
        return f >= 0 && f < FIELDS;
    }

    /** A reference was read on one node and put down on another, or on the same: then it does not arrive. */
    private void carry(int reference, int from, int at) {
        // Neither nothing nor a dead reference has a slot.
        int slot = heap.slotOf(reference);
        if (from == at || slot == NONE) {
            return;
        }
        int owner = Heap.nodeOf(slot);
        if (at != owner) {
            exits.put(at, reference, clock);
        }
        if (heap.entryAt(slot) == NONE) {
            heap.setEntry(slot, clock);
            lower(owner, threshold);
        } else {
            raise(slot, clock);
        }
    }

    /** For slots whose objects have entries. */
    private void raise(int slot, int stamp) {
        int old = heap.entryAt(slot);
        if (stamp > old) {
            lower(Heap.nodeOf(slot), old);
            heap.setEntry(slot, stamp);
        }
    }

    private void lower(int n, int stamp) {
        lows[n] = Math.min(lows[n], stamp);
    }

    private int redoOf(int n) {
        return Math.min(Math.min(lasts[n], lows[n]), queue.leastOldStamp(n));
    }

    private boolean isHeldByRoot(int n, int object) {
        for (int r = 0; r < ROOTS; r++) {
            if (roots[n * ROOTS + r] == object) {
                return true;
            }
        }
        return false;
    }

    private void reachFromRootsAndEntries(int n) {
        for (int slot = n * OBJECTS; slot < (n + 1) * OBJECTS; slot++) {
            reached[slot] = heap.entryAt(slot);
            if (heap.isTaken(slot) && isHeldByRoot(n, heap.numberAt(slot))) {
                reached[slot] = clock;
            }
        }
    }

    /**
     * Only the greatest stamp is ever asked for, so it alone goes along; a chain has at most OBJECTS - 1 steps, and
     * every pass takes the stamp one step on at least.
     */
    private void reachAlongFields(int n) {
        for (int pass = 1; pass < OBJECTS; pass++) {
            for (int slot = n * OBJECTS; slot < (n + 1) * OBJECTS; slot++) {
                for (int f = 0; f < FIELDS; f++) {
                    reachFromField(n, slot, f);
                }
            }
        }
    }

    private void reachFromField(int n, int slot, int f) {
        int held = heap.slotOf(heap.fieldAt(slot, f));
        if (held != NONE && Heap.nodeOf(held) == n) {
            reached[held] = Math.max(reached[held], reached[slot]);
        }
    }

    private int freeUnreached(int n) {
        int freed = 0;
        for (int slot = n * OBJECTS; slot < (n + 1) * OBJECTS; slot++) {
            if (heap.isTaken(slot) && reached[slot] == NONE) {
                heap.free(slot);
                freed++;
            }
        }
        return freed;
    }

    /** The greatest stamp with which an exit of n is reached, or NONE. */
    private int reachOfExit(int n, int object) {
        if (isHeldByRoot(n, object)) {
            return clock;
        }
        int greatest = NONE;
        for (int slot = n * OBJECTS; slot < (n + 1) * OBJECTS; slot++) {
            if (heap.isHeldByField(slot, object)) {
                greatest = Math.max(greatest, reached[slot]);
            }
        }
        return greatest;
    }

    private void takeUnreachedExits(int n) {
        // From the last row on, because the rows behind a removed one move up.
        for (int row = exits.size() - 1; row >= 0; row--) {
            if (exits.nodeAt(row) == n && reachOfExit(n, exits.objectAt(row)) == NONE) {
                exits.removeAt(row);
            }
        }
    }

    private void stampReachedExits(int n) {
        for (int row = 0; row < exits.size(); row++) {
            if (exits.nodeAt(row) == n) {
                stampReachedExit(row);
            }
        }
    }

    private void stampReachedExit(int row) {
        int n = exits.nodeAt(row);
        int object = exits.objectAt(row);
        int old = exits.stampAt(row);
        int stamp = reachOfExit(n, object);
        if (stamp > old) {
            exits.setStamp(row, stamp);
            queue.send(n, object, stamp, old);
        }
    }

    /**
     * The objects that are there. Each node has as many slots as it may have objects, so what is kept does not grow
     * with the objects that were made and freed.
     */
    private static final class Heap {
        /** 0 where a slot is not taken, and no object bears the number 0. */
        private final int[] numbers = new int[NODES * OBJECTS];
        private final int[] fields = new int[NODES * OBJECTS * FIELDS];
        private final int[] entries = new int[NODES * OBJECTS];
        private int made;

        Heap() {
            for (int slot = 0; slot < NODES * OBJECTS; slot++) {
                entries[slot] = NONE;
            }
        }

        static int nodeOf(int slot) {
            return slot / OBJECTS;
        }

        /** The slot of the object with a number; NONE when it is not there. */
        int slotOf(int number) {
            if (number <= 0) {
                return NONE;
            }
            for (int slot = 0; slot < NODES * OBJECTS; slot++) {
                if (numbers[slot] == number) {
                    return slot;
                }
            }
            return NONE;
        }

        boolean isTaken(int slot) {
            return numbers[slot] != 0;
        }

        int numberAt(int slot) {
            return numbers[slot];
        }

        int countOn(int n) {
            int count = 0;
            for (int slot = n * OBJECTS; slot < (n + 1) * OBJECTS; slot++) {
                if (isTaken(slot)) {
                    count++;
                }
            }
            return count;
        }

        /** The number of a new object on a node that has room for it. */
        int add(int n) {
            for (int slot = n * OBJECTS; slot < (n + 1) * OBJECTS; slot++) {
                if (!isTaken(slot)) {
                    made++;
                    numbers[slot] = made;
                    return made;
                }
            }
            return NONE;
        }

        void free(int slot) {
            numbers[slot] = 0;
            entries[slot] = NONE;
            for (int f = 0; f < FIELDS; f++) {
                setField(slot, f, 0);
            }
        }

        int fieldAt(int slot, int f) {
            return fields[slot * FIELDS + f];
        }

        void setField(int slot, int f, int reference) {
            fields[slot * FIELDS + f] = reference;
        }

        boolean isHeldByField(int slot, int object) {
            for (int f = 0; f < FIELDS; f++) {
                if (fieldAt(slot, f) == object) {
                    return true;
                }
            }
            return false;
        }

        /** The stamp of the entry, or NONE. */
        int entryAt(int slot) {
            return entries[slot];
        }

        void setEntry(int slot, int stamp) {
            entries[slot] = stamp;
        }

        int removeEntriesBelow(int stamp) {
            int removed = 0;
            for (int slot = 0; slot < NODES * OBJECTS; slot++) {
                if (entries[slot] != NONE && entries[slot] < stamp) {
                    entries[slot] = NONE;
                    removed++;
                }
            }
            return removed;
        }
    }

    /** The exits of all nodes, in rows by ascending numbers of their objects. */
    private static final class Exits {
        /**
         * A node never has more exits than this. Those that outlived its last collecting are held by its roots or the
         * fields of its objects; those made since then have objects that are still there, because their entries are
         * younger than LAST of the node, and THRESHOLD is never greater than that.
         */
        private static final int OF_NODE = ROOTS + OBJECTS * FIELDS + (NODES - 1) * OBJECTS;
        private static final int ROWS = NODES * OF_NODE;

        private final int[] nodes = new int[ROWS];
        private final int[] objects = new int[ROWS];
        private final int[] stamps = new int[ROWS];
        private int size;

        int size() {
            return size;
        }

        int nodeAt(int row) {
            return nodes[row];
        }

        int objectAt(int row) {
            return objects[row];
        }

        int stampAt(int row) {
            return stamps[row];
        }

        void setStamp(int row, int stamp) {
            stamps[row] = stamp;
        }

        int countOf(int n) {
            int count = 0;
            for (int row = 0; row < size; row++) {
                if (nodes[row] == n) {
                    count++;
                }
            }
            return count;
        }

        int rowOf(int n, int object) {
            for (int row = 0; row < size; row++) {
                if (nodes[row] == n && objects[row] == object) {
                    return row;
                }
            }
            return NONE;
        }

        void put(int n, int object, int stamp) {
            int row = rowOf(n, object);
            if (row != NONE) {
                stamps[row] = stamp;
            } else if (size < ROWS) {
                insert(n, object, stamp);
            }
        }

        private void insert(int n, int object, int stamp) {
            int row = size;
            while (row > 0 && objects[row - 1] > object) {
                copyRow(row - 1, row);
                row--;
            }
            nodes[row] = n;
            objects[row] = object;
            stamps[row] = stamp;
            size++;
        }

        void removeAt(int row) {
            for (int next = row + 1; next < size; next++) {
                copyRow(next, next - 1);
            }
            size--;
        }

        private void copyRow(int from, int to) {
            nodes[to] = nodes[from];
            objects[to] = objects[from];
            stamps[to] = stamps[from];
        }
    }

    /** The messages that were not delivered, in the order of sending. */
    private static final class Queue {
        static final int NODE = 0;
        static final int OBJECT = 1;
        static final int NEW_STAMP = 2;
        static final int OLD_STAMP = 3;
        static final int PARTS = 4;

        private final int[] parts = new int[MESSAGES * PARTS];
        private int size;

        int size() {
            return size;
        }

        boolean has(int i) {
            return i >= 0 && i < size;
        }

        int part(int i, int what) {
            return parts[i * PARTS + what];
        }

        /** There is always room: collecting is refused before the messages could become too many. */
        void send(int n, int object, int stamp, int old) {
            if (size < MESSAGES) {
                parts[size * PARTS + NODE] = n;
                parts[size * PARTS + OBJECT] = object;
                parts[size * PARTS + NEW_STAMP] = stamp;
                parts[size * PARTS + OLD_STAMP] = old;
                size++;
            }
        }

        void removeAt(int i) {
            for (int at = i * PARTS; at < (size - 1) * PARTS; at++) {
                parts[at] = parts[at + PARTS];
            }
            size--;
        }

        /** The least w of a node's messages; NEVER when it has none. */
        int leastOldStamp(int n) {
            int least = NEVER;
            for (int i = 0; i < size; i++) {
                if (part(i, NODE) == n) {
                    least = Math.min(least, part(i, OLD_STAMP));
                }
            }
            return least;
        }
    }
}
