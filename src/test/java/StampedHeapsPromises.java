import java.lang.reflect.Field;

/**
 * For every promise of the document, by its number: ordinary calls, the edges that the document names, and wrong
 * inputs. Answers that are not as due are printed; exit code 1 if there are any.
 */
public final class StampedHeapsPromises {
    private static final int NONE = -1;
    private static final int NEVER = 2147483647;
    private static final int[] NO_NODES = {-1, 3, 4, 100, Integer.MIN_VALUE, Integer.MAX_VALUE};
    private static final int[] NO_FIELDS = {-1, 2, 3, Integer.MIN_VALUE, Integer.MAX_VALUE};

    private static int wrong = 0;

    private static void due(String what, int got, int want) {
        if (got != want) {
            wrong++;
            System.out.println(what + ": answered " + got + ", due is " + want);
        }
    }

    private static void due(String what, boolean got, boolean want) {
        due(what, got ? 1 : 0, want ? 1 : 0);
    }

    /** What the face shows of objects 0 .. 20, as a text; refused calls must leave it as it was. */
    private static String state(StampedHeaps x) {
        StringBuilder text = new StringBuilder();
        for (int n = 0; n < 3; n++) {
            text.append("node ").append(n).append(':');
            for (int r = 0; r < 3; r++) {
                text.append(' ').append(x.root(n, r));
            }
            text.append(" objects ").append(x.objects(n)).append(" redo ").append(x.redo(n)).append(" exits");
            for (int object = 0; object <= 20; object++) {
                text.append(' ').append(x.exit(n, object));
            }
            text.append('\n');
        }
        for (int object = 0; object <= 20; object++) {
            text.append("object ").append(object).append(": ").append(x.owner(object)).append(' ');
            text.append(x.field(object, 0)).append(' ').append(x.field(object, 1)).append(' ');
            text.append(x.entry(object)).append('\n');
        }
        for (int i = 0; i < x.messages(); i++) {
            for (int what = 0; what < 4; what++) {
                text.append(x.message(i, what)).append(' ');
            }
            text.append('\n');
        }
        return text.append(x.threshold()).toString();
    }

    private static void unchanged(String what, StampedHeaps x, String before) {
        if (!state(x).equals(before)) {
            wrong++;
            System.out.println(what + ": a refused call changed the state from\n" + before + "\nto\n" + state(x));
        }
    }

    /** The clock is seen by what a reference is stamped with that arrives next. */
    private static void clockIs(String what, StampedHeaps x, int clock) {
        x.make(0, 2, 1);
        due(what + ": the clock", x.exit(0, x.root(0, 2)), clock + 1);
    }

    /**
     * No run of calls is known that leaves a root with a dead reference or a message without its entry, because what
     * roots reach is not freed. So THRESHOLD is set past the face for one round, and every entry goes.
     */
    private static void takeAllEntries(StampedHeaps x) {
        try {
            Field threshold = StampedHeaps.class.getDeclaredField("threshold");
            threshold.setAccessible(true);
            int before = threshold.getInt(x);
            threshold.setInt(x, NEVER);
            x.round();
            threshold.setInt(x, before);
        } catch (ReflectiveOperationException e) {
            throw new IllegalStateException(e);
        }
    }

    /**
     * Roots 0 and 1 of node 0 hold object 1, which is there, and object 2 of node 1, which was freed; node 0 has an
     * exit for it with the stamp 2. Clock 3.
     */
    private static StampedHeaps withDeadRoot() {
        StampedHeaps x = new StampedHeaps();
        x.make(0, 0, 0);
        x.make(0, 1, 1);
        takeAllEntries(x);
        due("dead: collect(1)", x.collect(1), 1);
        return x;
    }

    /** A ring of object 1 on node 0 and object 2 on node 1 that no root holds; clock 10. */
    private static StampedHeaps withLostRing() {
        StampedHeaps x = new StampedHeaps();
        x.make(0, 0, 0);
        x.make(1, 0, 1);
        x.move(1, 0, 0, 1);
        x.store(0, 0, 0, 1);
        x.move(0, 0, 1, 1);
        x.store(1, 0, 0, 1);
        x.drop(0, 0);
        x.drop(0, 1);
        x.drop(1, 0);
        x.drop(1, 1);
        return x;
    }

    private static void collectAll(StampedHeaps x) {
        for (int n = 0; n < 3; n++) {
            x.collect(n);
        }
    }

    private static void deliverAll(StampedHeaps x) {
        for (int i = 0; i < 40; i++) {
            x.deliver(0);
        }
    }

    private static void promise1() {
        StampedHeaps x = new StampedHeaps();
        for (int n = 0; n < 3; n++) {
            for (int r = 0; r < 3; r++) {
                due("1: root(" + n + ", " + r + ")", x.root(n, r), 0);
            }
            due("1: objects(" + n + ")", x.objects(n), 0);
            due("1: redo(" + n + ")", x.redo(n), 0);
            for (int object = -1; object <= 513; object++) {
                due("1: exit(" + n + ", " + object + ")", x.exit(n, object), NONE);
            }
        }
        for (int object = -1; object <= 513; object++) {
            due("1: owner(" + object + ")", x.owner(object), NONE);
            due("1: entry(" + object + ")", x.entry(object), NONE);
            due("1: field(" + object + ", 0)", x.field(object, 0), NONE);
        }
        due("1: messages()", x.messages(), 0);
        due("1: message(0, 0)", x.message(0, 0), NONE);
        due("1: threshold()", x.threshold(), 0);
        due("1: round()", x.round(), 0);
        due("1: NONE", StampedHeaps.NONE, NONE);
        due("1: NEVER", StampedHeaps.NEVER, NEVER);
        x.make(0, 0, 1);
        StampedHeaps other = new StampedHeaps();
        due("1: another object's root", other.root(0, 0), 0);
        due("1: another object's numbers", other.make(2, 2, 2), 1);
        clockIs("1", new StampedHeaps(), 0);
    }

    private static void promise2() {
        StampedHeaps x = new StampedHeaps();
        due("2: own", x.make(1, 2, 1), 1);
        due("2: root", x.root(1, 2), 1);
        due("2: owner", x.owner(1), 1);
        due("2: field 0", x.field(1, 0), 0);
        due("2: field 1", x.field(1, 1), 0);
        due("2: no entry", x.entry(1), NONE);
        due("2: no exit", x.exit(1, 1), NONE);
        due("2: over a root", x.make(1, 2, 0), 2);
        due("2: root then", x.root(1, 2), 2);
        due("2: owner of another's", x.owner(2), 0);
        due("2: objects", x.objects(1), 1);
        due("2: entry of another's", x.entry(2), 2);
        due("2: exit of another's", x.exit(1, 2), 2);
        due("2: the owner has no exit", x.exit(0, 2), NONE);
        for (int bad : NO_NODES) {
            String before = state(x);
            due("2: node " + bad, x.make(bad, 0, 0), NONE);
            due("2: root " + bad, x.make(0, bad, 0), NONE);
            due("2: owner " + bad, x.make(0, 0, bad), NONE);
            unchanged("2", x, before);
        }
        for (int k = 0; k < 7; k++) {
            due("2: filling", x.make(2, 0, 1), 3 + k);
        }
        String before = state(x);
        due("2: own full", x.make(1, 0, 1), NONE);
        due("2: another's full", x.make(2, 0, 1), NONE);
        unchanged("2: full", x, before);
        due("2: full objects", x.objects(1), 8);
        due("2: another node has room", x.make(0, 0, 2), 10);
        due("2: refused calls leave the clock", x.exit(0, 10), 10);
        due("2: collect", x.collect(1), 1);
        due("2: room again", x.make(1, 0, 1), 11);
        due("2: fields empty where an object was freed", x.field(11, 0), 0);
        fieldsOfFreedObjectsAreNotSeenAgain();
        numbersGoOn();
    }

    private static void fieldsOfFreedObjectsAreNotSeenAgain() {
        StampedHeaps x = new StampedHeaps();
        x.make(0, 0, 0);
        x.store(0, 0, 0, 0);
        x.store(0, 0, 1, 0);
        x.drop(0, 0);
        due("2: freed", x.collect(0), 1);
        due("2: made again", x.make(0, 0, 0), 2);
        due("2: field 0 is empty", x.field(2, 0), 0);
        due("2: field 1 is empty", x.field(2, 1), 0);
        due("2: no entry", x.entry(2), NONE);
    }

    private static void numbersGoOn() {
        StampedHeaps x = new StampedHeaps();
        for (int number = 1; number <= 256; number++) {
            due("2: number", x.make(0, 0, 0), number);
            due("2: collect", x.collect(0), number == 1 ? 0 : 1);
        }
        due("2: the last is there", x.owner(256), 0);
        due("2: the one before is not", x.owner(255), NONE);
    }

    private static void promise3() {
        StampedHeaps x = new StampedHeaps();
        x.make(0, 0, 0);
        x.make(0, 1, 0);
        x.store(0, 0, 1, 1);
        due("3: own", x.load(0, 0, 1, 2), 2);
        due("3: own root", x.root(0, 2), 2);
        due("3: own does not arrive", x.entry(2), NONE);
        due("3: nothing", x.load(0, 0, 0, 2), 0);
        due("3: root after nothing", x.root(0, 2), 0);
        due("3: into the same root", x.load(0, 0, 1, 0), 2);
        due("3: the same root", x.root(0, 0), 2);
        clockIs("3", x, 6);
        String before = state(x);
        for (int bad : NO_NODES) {
            due("3: node " + bad, x.load(bad, 0, 0, 1), NONE);
            due("3: root " + bad, x.load(0, bad, 0, 1), NONE);
            due("3: to " + bad, x.load(0, 0, 0, bad), NONE);
        }
        for (int bad : NO_FIELDS) {
            due("3: field " + bad, x.load(0, 0, bad, 1), NONE);
        }
        due("3: empty root", x.load(1, 0, 0, 1), NONE);
        unchanged("3", x, before);
        clockIs("3: refused", x, 7);
        loadAcrossNodes();
        loadDead();
    }

    private static void loadAcrossNodes() {
        StampedHeaps x = new StampedHeaps();
        x.make(0, 0, 1);
        x.make(0, 1, 2);
        x.make(0, 2, 0);
        x.store(0, 0, 0, 1);
        x.store(0, 0, 1, 2);
        due("3: entry of 2 before", x.entry(2), 4);
        due("3: entry of 3 before", x.entry(3), 5);
        due("3: of a third node", x.load(0, 0, 0, 1), 2);
        due("3: raised", x.entry(2), 6);
        due("3: exit", x.exit(0, 2), 6);
        due("3: home again", x.load(0, 0, 1, 2), 3);
        due("3: home again raised", x.entry(3), 7);
        due("3: no exit at the owner", x.exit(0, 3), NONE);
        due("3: exit of the read node stays", x.exit(1, 3), 5);
    }

    private static void loadDead() {
        StampedHeaps x = withDeadRoot();
        String before = state(x);
        due("3: dead root", x.load(0, 1, 0, 2), NONE);
        unchanged("3: dead root", x, before);
        x.store(0, 0, 0, 1);
        due("3: own dead field", x.load(0, 0, 0, 2), 2);
        due("3: dead in a root", x.root(0, 2), 2);
        x.move(0, 0, 2, 0);
        due("3: another's dead field", x.load(2, 0, 0, 1), 2);
        due("3: dead in another's root", x.root(2, 1), 2);
        due("3: dead does not arrive", x.exit(2, 2), NONE);
        due("3: the exit for it stays", x.exit(0, 2), 2);
        due("3: dead has no entry", x.entry(2), NONE);
        clockIs("3: dead", x, 7);
    }

    private static void promise4() {
        StampedHeaps x = new StampedHeaps();
        x.make(0, 0, 0);
        x.make(0, 1, 0);
        due("4: own", x.store(0, 0, 0, 1), true);
        due("4: field 0", x.field(1, 0), 2);
        due("4: field 1", x.field(1, 1), 0);
        due("4: own does not arrive", x.entry(2), NONE);
        due("4: itself", x.store(0, 0, 1, 0), true);
        due("4: field 1 then", x.field(1, 1), 1);
        due("4: nothing", x.store(0, 0, 0, 2), true);
        due("4: field 0 after nothing", x.field(1, 0), 0);
        clockIs("4", x, 5);
        x.drop(0, 2);
        String before = state(x);
        for (int bad : NO_NODES) {
            due("4: node " + bad, x.store(bad, 0, 0, 1), false);
            due("4: root " + bad, x.store(0, bad, 0, 1), false);
            due("4: from " + bad, x.store(0, 0, 0, bad), false);
        }
        for (int bad : NO_FIELDS) {
            due("4: field " + bad, x.store(0, 0, bad, 1), false);
        }
        due("4: empty root", x.store(0, 2, 0, 1), false);
        unchanged("4", x, before);
        clockIs("4: refused", x, 7);
        storeAcrossNodes();
        storeDead();
    }

    private static void storeAcrossNodes() {
        StampedHeaps x = new StampedHeaps();
        x.make(0, 0, 1);
        x.make(0, 1, 0);
        x.make(0, 2, 2);
        due("4: own object away", x.store(0, 0, 0, 1), true);
        due("4: entry", x.entry(2), 4);
        due("4: exit of the object's node", x.exit(1, 2), 4);
        due("4: exit of the roots' node", x.exit(0, 2), NONE);
        due("4: third node's", x.store(0, 0, 0, 2), true);
        due("4: third's entry", x.entry(3), 5);
        due("4: third's exit", x.exit(1, 3), 5);
        due("4: the roots' exit stays", x.exit(0, 3), 3);
        due("4: home again", x.store(0, 0, 1, 0), true);
        due("4: home again entry", x.entry(1), 6);
        due("4: home again no exit", x.exit(1, 1), NONE);
        due("4: field", x.field(1, 1), 1);
    }

    private static void storeDead() {
        StampedHeaps x = withDeadRoot();
        String before = state(x);
        due("4: dead root", x.store(0, 1, 0, 0), false);
        unchanged("4: dead root", x, before);
        due("4: dead from", x.store(0, 0, 0, 1), true);
        due("4: dead in a field", x.field(1, 0), 2);
        x.make(0, 2, 2);
        due("4: dead from, away", x.store(0, 2, 1, 1), true);
        due("4: dead in another's field", x.field(3, 1), 2);
        due("4: dead does not arrive", x.exit(2, 2), NONE);
        clockIs("4: dead", x, 6);
    }

    private static void promise5() {
        StampedHeaps x = new StampedHeaps();
        x.make(0, 0, 0);
        due("5: away", x.move(0, 0, 1, 2), true);
        due("5: root", x.root(1, 2), 1);
        due("5: the first root stays", x.root(0, 0), 1);
        due("5: entry", x.entry(1), 2);
        due("5: exit", x.exit(1, 1), 2);
        due("5: on", x.move(1, 2, 2, 0), true);
        due("5: entry raised", x.entry(1), 3);
        due("5: exit of the new node", x.exit(2, 1), 3);
        due("5: exit of the read node", x.exit(1, 1), 2);
        due("5: home", x.move(2, 0, 0, 1), true);
        due("5: entry raised at home", x.entry(1), 4);
        due("5: no exit at home", x.exit(0, 1), NONE);
        due("5: again", x.move(0, 1, 1, 0), true);
        due("5: exit gets NOW", x.exit(1, 1), 5);
        due("5: nothing", x.move(0, 2, 1, 0), true);
        due("5: root after nothing", x.root(1, 0), 0);
        clockIs("5", x, 6);
        String before = state(x);
        for (int bad : NO_NODES) {
            due("5: node " + bad, x.move(bad, 0, 1, 0), false);
            due("5: root " + bad, x.move(0, bad, 1, 0), false);
            due("5: to node " + bad, x.move(0, 0, bad, 0), false);
            due("5: to root " + bad, x.move(0, 0, 1, bad), false);
            due("5: both nodes " + bad, x.move(bad, 0, bad, 1), false);
        }
        for (int n = 0; n < 3; n++) {
            due("5: same node", x.move(n, 0, n, 1), false);
            due("5: same root", x.move(n, 0, n, 0), false);
        }
        unchanged("5", x, before);
        clockIs("5: refused", x, 7);
        StampedHeaps y = withDeadRoot();
        due("5: dead", y.move(0, 1, 2, 2), true);
        due("5: dead in a root", y.root(2, 2), 2);
        due("5: dead does not arrive", y.exit(2, 2), NONE);
        due("5: dead home", y.move(0, 1, 1, 0), true);
        due("5: dead in its owner's root", y.root(1, 0), 2);
        due("5: dead has no entry", y.entry(2), NONE);
        due("5: dead again", y.move(2, 2, 0, 2), true);
        due("5: its exit is not stamped", y.exit(0, 2), 2);
    }

    private static void promise6() {
        StampedHeaps x = new StampedHeaps();
        x.make(0, 0, 0);
        x.make(0, 1, 0);
        due("6: drop", x.drop(0, 0), true);
        due("6: root", x.root(0, 0), 0);
        due("6: other root", x.root(0, 1), 2);
        due("6: the object stays", x.owner(1), 0);
        due("6: empty", x.drop(0, 0), true);
        due("6: still empty", x.root(0, 0), 0);
        due("6: empty of another node", x.drop(2, 2), true);
        String before = state(x);
        for (int bad : NO_NODES) {
            due("6: node " + bad, x.drop(bad, 0), false);
            due("6: root " + bad, x.drop(0, bad), false);
        }
        unchanged("6", x, before);
        clockIs("6", x, 5);
        StampedHeaps y = withDeadRoot();
        due("6: dead", y.drop(0, 1), true);
        due("6: root then", y.root(0, 1), 0);
    }

    private static void promise7() {
        StampedHeaps x = new StampedHeaps();
        due("7: nothing to free", x.collect(2), 0);
        x.make(0, 0, 0);
        x.make(0, 0, 0);
        x.make(0, 1, 0);
        x.make(0, 2, 1);
        x.drop(0, 2);
        due("7: what no root holds", x.collect(0), 1);
        due("7: freed", x.owner(1), NONE);
        due("7: held", x.owner(2), 0);
        due("7: held too", x.owner(3), 0);
        due("7: again", x.collect(0), 0);
        due("7: an entry holds", x.collect(1), 0);
        due("7: a root of another node", x.move(0, 0, 2, 0), true);
        x.drop(0, 0);
        due("7: an entry holds for it", x.collect(0), 0);
        for (int bad : NO_NODES) {
            String before = state(x);
            due("7: node " + bad, x.collect(bad), NONE);
            unchanged("7", x, before);
        }
        clockIs("7", x, 12);
        chainsInBothDirections();
        ringsGo();
        stampsOfExits();
        messagesByAscendingNumbers();
        deadExitsStand();
        collectRefused(40, 0);
        collectRefused(38, 2);
        collectRefused(37, 3);
    }

    /** Chains of eight objects on node 0, their numbers ascending and descending, with an exit at the end. */
    private static void chainsInBothDirections() {
        StampedHeaps x = new StampedHeaps();
        x.make(0, 0, 0);
        x.store(0, 0, 1, 0);
        x.load(0, 0, 1, 1);
        for (int k = 2; k <= 8; k++) {
            x.make(0, 2, 0);
            x.store(0, 1, 0, 2);
            x.load(0, 1, 0, 1);
        }
        x.make(0, 2, 1);
        x.store(0, 1, 1, 2);
        x.drop(0, 1);
        x.drop(0, 2);
        endOfChain("ascending", x, 9, 29);
        StampedHeaps y = new StampedHeaps();
        y.make(0, 0, 1);
        for (int k = 2; k <= 9; k++) {
            y.make(0, 1, 0);
            y.store(0, 1, 0, 0);
            y.store(0, 1, 1, 1);
            y.load(0, 1, 1, 0);
        }
        y.drop(0, 1);
        endOfChain("descending", y, 1, 35);
    }

    private static void endOfChain(String name, StampedHeaps x, int end, int now) {
        due("7: " + name + ", all held", x.collect(0), 0);
        due("7: " + name + ", NOW comes to the exit", x.exit(0, end), now);
        due("7: " + name + ", a message", x.messages(), 1);
        due("7: " + name + ", for the exit", x.message(0, 1), end);
        x.drop(0, 0);
        due("7: " + name + ", all freed", x.collect(0), 8);
        due("7: " + name + ", exit taken away", x.exit(0, end), NONE);
        due("7: " + name + ", no message for that", x.messages(), 1);
    }

    private static void ringsGo() {
        StampedHeaps x = new StampedHeaps();
        x.make(0, 0, 0);
        x.make(0, 1, 0);
        x.store(0, 0, 0, 1);
        x.store(0, 1, 0, 0);
        x.drop(0, 0);
        due("7: a ring that a root holds", x.collect(0), 0);
        x.drop(0, 1);
        due("7: a ring on one node", x.collect(0), 2);
        StampedHeaps y = withLostRing();
        collectAll(y);
        deliverAll(y);
        due("7: entries hold the ring", y.objects(0) + y.objects(1), 2);
        y.round();
        for (int k = 0; k < 4; k++) {
            collectAll(y);
            deliverAll(y);
            y.round();
        }
        due("7: a ring across nodes goes", y.objects(0) + y.objects(1), 0);
    }

    private static void stampsOfExits() {
        StampedHeaps x = new StampedHeaps();
        x.make(0, 0, 1);
        x.make(0, 1, 2);
        x.store(0, 0, 0, 1);
        due("7: exit of node 1 before", x.exit(1, 2), 3);
        due("7: a stamp that is not greater", x.collect(1), 0);
        due("7: exit of node 1 stays", x.exit(1, 2), 3);
        due("7: no message", x.messages(), 0);
        x.move(0, 0, 2, 0);
        due("7: entry of 1", x.entry(1), 5);
        due("7: redo before", x.redo(1), 1);
        due("7: the entry's stamp goes on", x.collect(1), 0);
        due("7: exit of node 1 then", x.exit(1, 2), 5);
        due("7: LAST, LOW and the message", x.redo(1), 3);
        due("7: a message", x.messages(), 1);
        due("7: its node", x.message(0, 0), 1);
        due("7: its object", x.message(0, 1), 2);
        due("7: its v", x.message(0, 2), 5);
        due("7: its w", x.message(0, 3), 3);
        due("7: the entry waits for it", x.entry(2), 3);
        x.drop(0, 1);
        due("7: exits of others stay", x.collect(1), 0);
        due("7: exit of node 0", x.exit(0, 2), 2);
        due("7: taken away", x.collect(0), 0);
        due("7: exit of node 0 then", x.exit(0, 2), NONE);
        due("7: exit of node 1 at last", x.exit(1, 2), 5);
        greatestOfSeveralStamps();
    }

    /** Object 3 of node 1 holds the exit's object, and so does object 2: entries with the stamps 2 and 5. */
    private static void greatestOfSeveralStamps() {
        StampedHeaps x = new StampedHeaps();
        x.make(0, 0, 2);
        x.make(0, 1, 1);
        x.make(0, 2, 1);
        x.store(0, 1, 0, 0);
        x.store(0, 2, 1, 0);
        x.move(0, 1, 2, 0);
        x.collect(1);
        due("7: the greatest of two", x.exit(1, 1), 6);
        x.move(2, 0, 1, 0);
        x.collect(1);
        due("7: a root's is NOW", x.exit(1, 1), 9);
        due("7: messages in order", x.message(1, 2), 9);
        due("7: w is what it had", x.message(1, 3), 6);
    }

    private static void messagesByAscendingNumbers() {
        StampedHeaps x = new StampedHeaps();
        x.make(1, 0, 1);
        x.make(2, 0, 2);
        x.make(1, 1, 1);
        x.move(1, 1, 0, 0);
        x.move(2, 0, 0, 1);
        x.move(1, 0, 0, 2);
        x.collect(0);
        due("7: three messages", x.messages(), 3);
        for (int i = 0; i < 3; i++) {
            due("7: ascending", x.message(i, 1), i + 1);
            due("7: v", x.message(i, 2), 7);
            due("7: w", x.message(i, 3), 6 - i);
        }
    }

    private static void deadExitsStand() {
        StampedHeaps x = withLostRing();
        collectAll(x);
        deliverAll(x);
        collectAll(x);
        deliverAll(x);
        collectAll(x);
        x.round();
        due("7: half of the ring", x.collect(0), 1);
        due("11: a dead field", x.field(2, 0), 1);
        due("15: the exit for a dead object", x.exit(1, 1) > 0, true);
        due("12: not there", x.owner(1), NONE);
        due("7: the other half", x.collect(1), 1);
        due("15: taken away", x.exit(1, 1), NONE);
        StampedHeaps y = withDeadRoot();
        due("7: a dead reference in a root", y.collect(0), 0);
        due("7: reaches its exit", y.exit(0, 2), 4);
        due("7: and sends", y.message(0, 1), 2);
    }

    /** Messages and exits that are together 40 are not too many, 41 are; also when most messages are other nodes'. */
    private static void collectRefused(int messages, int exits) {
        StampedHeaps x = new StampedHeaps();
        x.make(1, 0, 2);
        for (int k = 0; k < messages; k++) {
            due("7: filling", x.collect(1), 0);
        }
        for (int k = 0; k < exits; k++) {
            x.make(0, k, 1);
        }
        String name = "7: " + messages + " messages, " + exits + " exits";
        due(name, x.messages(), messages);
        due(name + ": node 0", x.collect(0), 0);
        due(name + ": all sent", x.messages(), 40);
        String before = state(x);
        due(name + ": node 1 refused", x.collect(1), NONE);
        due(name + ": node 0 again", x.collect(0), exits == 0 ? 0 : NONE);
        if (exits != 0) {
            unchanged(name, x, before);
        }
        due(name + ": deliver", x.deliver(0), true);
        due(name + ": 39 and 1", x.collect(1), 0);
        due(name + ": 40 and 1", x.collect(1), NONE);
        due(name + ": 40 and 0", x.collect(2), 0);
    }

    private static void promise8() {
        StampedHeaps x = new StampedHeaps();
        due("8: none", x.deliver(0), false);
        x.make(0, 0, 1);
        x.make(0, 1, 2);
        x.make(0, 2, 1);
        x.collect(0);
        due("8: three", x.messages(), 3);
        String before = state(x);
        for (int bad : new int[] {-1, 3, 4, 40, Integer.MIN_VALUE, Integer.MAX_VALUE}) {
            due("8: message " + bad, x.deliver(bad), false);
        }
        unchanged("8", x, before);
        due("8: the middle one", x.deliver(1), true);
        due("8: two left", x.messages(), 2);
        due("8: the first stays", x.message(0, 1), 1);
        due("8: the last moves up", x.message(1, 1), 3);
        due("8: the last's w", x.message(1, 3), 3);
        due("8: raised", x.entry(2), 4);
        due("8: not raised", x.entry(3), 3);
        due("8: the last", x.deliver(1), true);
        due("8: the last raised", x.entry(3), 4);
        due("8: the first", x.deliver(0), true);
        due("8: none left", x.deliver(0), false);
        clockIs("8", x, 4);
        raisingLowers();
        youngEntriesAreNotRaised();
        entriesOfTheSameStampAreNotRaised();
        noEntryNothing();
    }

    private static void raisingLowers() {
        StampedHeaps x = new StampedHeaps();
        x.make(0, 0, 1);
        x.collect(1);
        due("8: redo is LAST", x.redo(1), 2);
        x.collect(0);
        x.deliver(0);
        due("8: redo is LOW, the old stamp", x.redo(1), 1);
        x.collect(1);
        due("8: LOW is NEVER after collecting", x.redo(1), 4);
    }

    private static void youngEntriesAreNotRaised() {
        StampedHeaps x = new StampedHeaps();
        x.make(0, 0, 1);
        x.collect(0);
        x.move(0, 0, 2, 0);
        x.collect(1);
        due("8: entry", x.entry(1), 3);
        due("8: older message", x.deliver(0), true);
        due("8: entry stays", x.entry(1), 3);
        due("8: LOW stays", x.redo(1), 4);
    }

    /** The stamp 4 comes to object 2 by way of node 1 first, and from node 0 after that. */
    private static void entriesOfTheSameStampAreNotRaised() {
        StampedHeaps x = new StampedHeaps();
        x.make(0, 0, 1);
        x.make(0, 1, 2);
        x.store(0, 0, 0, 1);
        x.collect(0);
        x.deliver(0);
        x.collect(1);
        x.deliver(1);
        due("8: raised by way of node 1", x.entry(2), 4);
        x.collect(2);
        due("8: the same stamp", x.message(0, 2), 4);
        x.deliver(0);
        due("8: entry of that stamp", x.entry(2), 4);
        due("8: LOW stays NEVER", x.redo(2), 6);
    }

    private static void noEntryNothing() {
        StampedHeaps x = new StampedHeaps();
        x.make(0, 0, 1);
        x.collect(0);
        x.make(1, 0, 1);
        x.move(0, 0, 1, 1);
        x.move(1, 0, 0, 1);
        x.collect(0);
        takeAllEntries(x);
        x.collect(1);
        due("8: three messages", x.messages(), 3);
        due("8: no entry", x.deliver(0), true);
        due("8: still no entry", x.entry(1), NONE);
        due("8: LAST alone", x.redo(1), 7);
        x.drop(1, 1);
        due("8: its object freed", x.collect(1), 1);
        due("8: no object", x.deliver(0), true);
        due("8: still no object", x.owner(1), NONE);
        due("8: LAST alone, no object", x.redo(1), 9);
        due("8: one left", x.messages(), 1);
    }

    private static void promise9() {
        StampedHeaps x = new StampedHeaps();
        x.make(0, 0, 1);
        x.make(0, 1, 1);
        due("9: nothing old", x.round(), 0);
        due("9: threshold", x.threshold(), 0);
        x.drop(0, 0);
        x.drop(0, 1);
        x.collect(0);
        due("9: nodes 1 and 2 at 0", x.round(), 0);
        due("9: threshold still", x.threshold(), 0);
        x.collect(1);
        x.collect(2);
        due("9: both entries", x.round(), 2);
        due("9: threshold then", x.threshold(), 5);
        due("9: entry 1", x.entry(1), NONE);
        due("9: their objects stay", x.objects(1), 2);
        due("9: again", x.round(), 0);
        due("9: freed", x.collect(1), 2);
        clockIs("9", x, 8);
        entriesAtTheThresholdStay();
        thresholdNeverFalls();
    }

    private static void entriesAtTheThresholdStay() {
        StampedHeaps x = new StampedHeaps();
        x.make(0, 0, 1);
        x.collect(0);
        x.deliver(0);
        x.collect(1);
        x.collect(2);
        due("9: entry", x.entry(1), 2);
        due("9: none", x.round(), 0);
        due("9: the entry's stamp", x.threshold(), 2);
        due("9: entry stays", x.entry(1), 2);
    }

    private static void thresholdNeverFalls() {
        StampedHeaps x = new StampedHeaps();
        collectAll(x);
        due("9: round", x.round(), 0);
        due("9: least LAST", x.threshold(), 1);
        x.collect(0);
        x.collect(1);
        x.collect(2);
        x.make(0, 0, 1);
        due("9: LOW is THRESHOLD", x.redo(1), 1);
        due("9: same", x.round(), 0);
        due("9: not less", x.threshold(), 1);
        x.collect(1);
        x.round();
        due("9: 4", x.threshold(), 4);
        x.make(2, 0, 1);
        due("9: LOW is THRESHOLD again", x.redo(1), 4);
        due("9: other nodes' LOW is not", x.redo(0), 4);
        due("9: other nodes' LOW is not", x.redo(2), 6);
    }

    private static void promise10() {
        StampedHeaps x = withDeadRoot();
        due("10: held", x.root(0, 0), 1);
        due("10: dead", x.root(0, 1), 2);
        due("10: empty", x.root(0, 2), 0);
        due("10: of another node", x.root(1, 0), 0);
        for (int bad : NO_NODES) {
            due("10: node " + bad, x.root(bad, 0), NONE);
            due("10: root " + bad, x.root(0, bad), NONE);
        }
    }

    private static void promise11() {
        StampedHeaps x = withDeadRoot();
        x.store(0, 0, 1, 1);
        due("11: empty", x.field(1, 0), 0);
        due("11: dead", x.field(1, 1), 2);
        x.store(0, 0, 0, 0);
        due("11: held", x.field(1, 0), 1);
        for (int bad : NO_FIELDS) {
            due("11: field " + bad, x.field(1, bad), NONE);
        }
        for (int bad : new int[] {0, 2, 3, -1, -2, 512, 513, Integer.MIN_VALUE, Integer.MAX_VALUE}) {
            due("11: object " + bad, x.field(bad, 0), NONE);
            due("11: object " + bad, x.field(bad, 1), NONE);
        }
    }

    private static void promise12() {
        StampedHeaps x = new StampedHeaps();
        for (int owner = 0; owner < 3; owner++) {
            x.make(0, owner, owner);
            due("12: owner", x.owner(owner + 1), owner);
        }
        x.drop(0, 0);
        due("12: not collected yet", x.owner(1), 0);
        x.collect(0);
        due("12: freed", x.owner(1), NONE);
        for (int bad : new int[] {0, 1, 4, -1, 512, 513, Integer.MIN_VALUE, Integer.MAX_VALUE}) {
            due("12: object " + bad, x.owner(bad), NONE);
        }
    }

    private static void promise13() {
        StampedHeaps x = new StampedHeaps();
        x.make(0, 0, 1);
        x.make(0, 0, 1);
        x.make(0, 1, 2);
        due("13: node 0", x.objects(0), 0);
        due("13: node 1", x.objects(1), 2);
        due("13: node 2", x.objects(2), 1);
        for (int bad : NO_NODES) {
            due("13: node " + bad, x.objects(bad), NONE);
        }
    }

    private static void promise14() {
        StampedHeaps x = new StampedHeaps();
        x.make(0, 0, 0);
        due("14: none", x.entry(1), NONE);
        x.make(0, 1, 2);
        due("14: stamp", x.entry(2), 2);
        for (int bad : new int[] {0, 3, -1, 512, 513, Integer.MIN_VALUE, Integer.MAX_VALUE}) {
            due("14: object " + bad, x.entry(bad), NONE);
        }
        x.drop(0, 1);
        collectAll(x);
        due("14: before the round", x.entry(2), 2);
        x.round();
        due("14: taken away", x.entry(2), NONE);
        x.collect(2);
        due("14: freed", x.entry(2), NONE);
    }

    private static void promise15() {
        StampedHeaps x = new StampedHeaps();
        x.make(0, 0, 2);
        x.make(1, 0, 2);
        due("15: stamp", x.exit(0, 1), 1);
        due("15: of another node", x.exit(1, 2), 2);
        due("15: not of this node", x.exit(1, 1), NONE);
        due("15: not of this object", x.exit(0, 2), NONE);
        due("15: the owner", x.exit(2, 1), NONE);
        for (int bad : NO_NODES) {
            due("15: node " + bad, x.exit(bad, 1), NONE);
        }
        for (int bad : new int[] {0, 3, -1, 512, 513, Integer.MIN_VALUE, Integer.MAX_VALUE}) {
            for (int n = 0; n < 3; n++) {
                due("15: object " + bad, x.exit(n, bad), NONE);
            }
        }
    }

    private static void promise16() {
        StampedHeaps x = new StampedHeaps();
        due("16: none", x.messages(), 0);
        x.make(0, 0, 1);
        x.make(2, 0, 1);
        due("16: making sends none", x.messages(), 0);
        x.collect(0);
        due("16: one", x.messages(), 1);
        x.collect(2);
        due("16: two", x.messages(), 2);
        x.deliver(0);
        due("16: one left", x.messages(), 1);
    }

    private static void promise17() {
        StampedHeaps x = new StampedHeaps();
        x.make(0, 0, 1);
        x.make(2, 0, 1);
        x.collect(2);
        x.collect(0);
        int[][] due = {{2, 2, 3, 2}, {0, 1, 4, 1}};
        for (int i = 0; i < 2; i++) {
            for (int what = 0; what < 4; what++) {
                due("17: message(" + i + ", " + what + ")", x.message(i, what), due[i][what]);
            }
            for (int bad : new int[] {-1, 4, 5, 40, Integer.MIN_VALUE, Integer.MAX_VALUE}) {
                due("17: message(" + i + ", " + bad + ")", x.message(i, bad), NONE);
            }
        }
        for (int bad : new int[] {-1, 2, 3, 39, 40, 41, Integer.MIN_VALUE, Integer.MAX_VALUE}) {
            for (int what = 0; what < 4; what++) {
                due("17: message(" + bad + ", " + what + ")", x.message(bad, what), NONE);
            }
        }
        x.deliver(0);
        due("17: moved up", x.message(0, 0), 0);
        due("17: none there", x.message(1, 0), NONE);
    }

    private static void promise18() {
        StampedHeaps x = new StampedHeaps();
        x.make(0, 0, 1);
        x.make(0, 1, 1);
        x.collect(1);
        due("18: LAST", x.redo(1), 3);
        x.move(0, 1, 1, 0);
        due("18: LOW", x.redo(1), 2);
        x.move(0, 0, 1, 1);
        due("18: lesser LOW", x.redo(1), 1);
        x.move(0, 1, 1, 0);
        due("18: LOW does not rise", x.redo(1), 1);
        x.collect(1);
        due("18: LAST again", x.redo(1), 7);
        x.collect(0);
        due("18: the least w", x.redo(0), 1);
        due("18: not another's w", x.redo(1), 7);
        x.deliver(0);
        due("18: the w that is left", x.redo(0), 2);
        x.deliver(0);
        due("18: LAST of node 0", x.redo(0), 8);
        due("18: never collected", x.redo(2), 0);
        for (int bad : NO_NODES) {
            due("18: node " + bad, x.redo(bad), NONE);
        }
    }

    private static void promise19() {
        StampedHeaps x = new StampedHeaps();
        due("19: first", x.threshold(), 0);
        x.collect(2);
        x.collect(1);
        x.collect(0);
        due("19: collecting does not change it", x.threshold(), 0);
        x.round();
        due("19: the least redo", x.threshold(), 1);
        x.collect(2);
        x.round();
        due("19: the next least", x.threshold(), 2);
        x.collect(1);
        x.round();
        due("19: node 0's", x.threshold(), 3);
    }

    public static void main(String[] args) {
        promise1();
        promise2();
        promise3();
        promise4();
        promise5();
        promise6();
        promise7();
        promise8();
        promise9();
        promise10();
        promise11();
        promise12();
        promise13();
        promise14();
        promise15();
        promise16();
        promise17();
        promise18();
        promise19();
        System.out.println(wrong == 0 ? "all answers are as due" : wrong + " answers are not as due");
        if (wrong != 0) {
            System.exit(1);
        }
    }
}
