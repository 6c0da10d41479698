import java.lang.reflect.Field;
import java.util.ArrayList;
import java.util.List;
import java.util.Map;
import java.util.Random;
import java.util.TreeMap;
import java.util.TreeSet;

/**
 * Long runs of calls, chosen with fixed seeds, on the class and on a model that follows the document's terms word by
 * word (all stamps of an object kept as a set, not their greatest alone). After every call the whole state that the
 * face shows is compared. In every second run all entries are taken away now and then, by a THRESHOLD that is set past
 * the face for one round: no run of calls alone is known that leaves dead references in roots. Answers that differ are
 * printed; exit code 1 if there are any.
 */
public final class StampedHeapsAgainstModel {
    private static final int RUNS = 300;
    private static final int CALLS = 512;
    private static final int NONE = -1;
    private static final int NEVER = 2147483647;

    private static final class Thing {
        final int owner;
        final int[] fields = new int[2];
        Integer entry;

        Thing(int owner) {
            this.owner = owner;
        }
    }

    private record Letter(int node, int object, int v, int w) {
    }

    private static final class Model {
        final int[][] roots = new int[3][3];
        final TreeMap<Integer, Thing> things = new TreeMap<>();
        final List<TreeMap<Integer, Integer>> exits = List.of(new TreeMap<>(), new TreeMap<>(), new TreeMap<>());
        final List<Letter> letters = new ArrayList<>();
        final int[] last = new int[3];
        final int[] low = {NEVER, NEVER, NEVER};
        int clock;
        int threshold;
        int made;

        static boolean three(int k) {
            return k == 0 || k == 1 || k == 2;
        }

        static boolean two(int k) {
            return k == 0 || k == 1;
        }

        int objects(int n) {
            return three(n) ? (int) things.values().stream().filter(t -> t.owner == n).count() : NONE;
        }

        int make(int n, int r, int owner) {
            if (!three(n) || !three(r) || !three(owner) || objects(owner) == 8) {
                return NONE;
            }
            clock++;
            made++;
            things.put(made, new Thing(owner));
            roots[n][r] = made;
            if (owner != n) {
                arrive(made, n);
            }
            return made;
        }

        int load(int n, int r, int f, int to) {
            if (!three(n) || !three(r) || !three(to) || !two(f) || !things.containsKey(roots[n][r])) {
                return NONE;
            }
            clock++;
            Thing thing = things.get(roots[n][r]);
            roots[n][to] = thing.fields[f];
            if (thing.owner != n) {
                arrive(thing.fields[f], n);
            }
            return thing.fields[f];
        }

        boolean store(int n, int r, int f, int from) {
            if (!three(n) || !three(r) || !three(from) || !two(f) || !things.containsKey(roots[n][r])) {
                return false;
            }
            clock++;
            Thing thing = things.get(roots[n][r]);
            thing.fields[f] = roots[n][from];
            if (thing.owner != n) {
                arrive(thing.fields[f], thing.owner);
            }
            return true;
        }

        boolean move(int n, int r, int m, int q) {
            if (!three(n) || !three(r) || !three(m) || !three(q) || n == m) {
                return false;
            }
            clock++;
            roots[m][q] = roots[n][r];
            arrive(roots[m][q], m);
            return true;
        }

        boolean drop(int n, int r) {
            if (!three(n) || !three(r)) {
                return false;
            }
            clock++;
            roots[n][r] = 0;
            return true;
        }

        void arrive(int x, int b) {
            Thing thing = things.get(x);
            if (thing == null) {
                return;
            }
            if (thing.owner != b) {
                exits.get(b).put(x, clock);
            }
            if (thing.entry != null) {
                raise(thing, clock);
            } else {
                thing.entry = clock;
                if (low[thing.owner] > threshold) {
                    low[thing.owner] = threshold;
                }
            }
        }

        void raise(Thing thing, int v) {
            if (v > thing.entry) {
                if (low[thing.owner] > thing.entry) {
                    low[thing.owner] = thing.entry;
                }
                thing.entry = v;
            }
        }

        /** The stamps with which every number is reached that a root of n or a field of an object of n holds. */
        Map<Integer, TreeSet<Integer>> reach(int n) {
            Map<Integer, TreeSet<Integer>> stamps = new TreeMap<>();
            for (int held : roots[n]) {
                stamps.computeIfAbsent(held, k -> new TreeSet<>()).add(clock);
            }
            things.forEach((number, thing) -> {
                if (thing.owner == n && thing.entry != null) {
                    stamps.computeIfAbsent(number, k -> new TreeSet<>()).add(thing.entry);
                }
            });
            boolean grown = true;
            while (grown) {
                grown = false;
                for (Map.Entry<Integer, Thing> each : things.entrySet()) {
                    TreeSet<Integer> own = stamps.get(each.getKey());
                    if (each.getValue().owner != n || own == null) {
                        continue;
                    }
                    for (int held : each.getValue().fields) {
                        grown |= stamps.computeIfAbsent(held, k -> new TreeSet<>()).addAll(new ArrayList<>(own));
                    }
                }
            }
            return stamps;
        }

        int collect(int n) {
            if (!three(n) || letters.size() + exits.get(n).size() > 40) {
                return NONE;
            }
            clock++;
            Map<Integer, TreeSet<Integer>> stamps = reach(n);
            int before = things.size();
            things.entrySet().removeIf(e -> e.getValue().owner == n && !stamps.containsKey(e.getKey()));
            exits.get(n).keySet().removeIf(x -> !stamps.containsKey(x));
            for (Map.Entry<Integer, Integer> exit : exits.get(n).entrySet()) {
                int v = stamps.get(exit.getKey()).last();
                int w = exit.getValue();
                if (v > w) {
                    exit.setValue(v);
                    letters.add(new Letter(n, exit.getKey(), v, w));
                }
            }
            last[n] = clock;
            low[n] = NEVER;
            return before - things.size();
        }

        boolean deliver(int i) {
            if (i < 0 || i >= letters.size()) {
                return false;
            }
            Letter letter = letters.remove(i);
            Thing thing = things.get(letter.object);
            if (thing != null && thing.entry != null) {
                raise(thing, letter.v);
            }
            return true;
        }

        int redo(int n) {
            if (!three(n)) {
                return NONE;
            }
            int least = Math.min(last[n], low[n]);
            for (Letter letter : letters) {
                if (letter.node == n) {
                    least = Math.min(least, letter.w);
                }
            }
            return least;
        }

        int round() {
            threshold = Math.max(threshold, Math.min(redo(0), Math.min(redo(1), redo(2))));
            int taken = 0;
            for (Thing thing : things.values()) {
                if (thing.entry != null && thing.entry < threshold) {
                    thing.entry = null;
                    taken++;
                }
            }
            return taken;
        }
    }

    private static int wrong = 0;
    private static int freed = 0;
    private static int taken = 0;
    private static int deadSeen = 0;
    private static int fullSeen = 0;
    private static int refusedCollects = 0;
    private static int deadRoots = 0;
    private static int deadLetters = 0;

    private static void same(String where, long got, long want) {
        if (got != want) {
            wrong++;
            if (wrong <= 20) {
                System.out.println(where + " answered " + got + ", due is " + want);
            }
        }
    }

    private static int bit(boolean b) {
        return b ? 1 : 0;
    }

    private static void compareState(String where, StampedHeaps x, Model m) {
        for (int n = 0; n < 3; n++) {
            for (int r = 0; r < 3; r++) {
                same(where + ": root(" + n + ", " + r + ")", x.root(n, r), m.roots[n][r]);
                if (m.roots[n][r] != 0 && !m.things.containsKey(m.roots[n][r])) {
                    deadRoots++;
                }
            }
            same(where + ": objects(" + n + ")", x.objects(n), m.objects(n));
            same(where + ": redo(" + n + ")", x.redo(n), m.redo(n));
        }
        for (int object = 0; object <= m.made + 1; object++) {
            Thing thing = m.things.get(object);
            same(where + ": owner(" + object + ")", x.owner(object), thing == null ? NONE : thing.owner);
            same(where + ": entry(" + object + ")", x.entry(object),
                    thing == null || thing.entry == null ? NONE : thing.entry);
            for (int f = 0; f < 2; f++) {
                int held = thing == null ? NONE : thing.fields[f];
                same(where + ": field(" + object + ", " + f + ")", x.field(object, f), held);
                if (held > 0 && !m.things.containsKey(held)) {
                    deadSeen++;
                }
            }
            for (int n = 0; n < 3; n++) {
                same(where + ": exit(" + n + ", " + object + ")", x.exit(n, object),
                        m.exits.get(n).getOrDefault(object, NONE));
            }
        }
        same(where + ": messages()", x.messages(), m.letters.size());
        for (int i = 0; i < m.letters.size(); i++) {
            Letter letter = m.letters.get(i);
            if (!m.things.containsKey(letter.object)) {
                deadLetters++;
            }
            int[] parts = {letter.node, letter.object, letter.v, letter.w};
            for (int what = 0; what < 4; what++) {
                same(where + ": message(" + i + ", " + what + ")", x.message(i, what), parts[what]);
            }
        }
        same(where + ": threshold()", x.threshold(), m.threshold);
    }

    /** Mostly a number that is there, now and then one beside it. */
    private static int pick(Random random, int count) {
        return random.nextInt(40) == 0 ? random.nextInt(count + 4) - 2 : random.nextInt(count);
    }

    private static String call(Random random, int[] weights, StampedHeaps x, Model m) {
        int sum = 0;
        for (int weight : weights) {
            sum += weight;
        }
        int left = random.nextInt(sum);
        int kind = 0;
        while (left >= weights[kind]) {
            left -= weights[kind];
            kind++;
        }
        int a = pick(random, 3);
        int b = pick(random, 3);
        int c = pick(random, 3);
        int d = pick(random, 3);
        int f = pick(random, 2);
        int i = random.nextInt(20) == 0 ? random.nextInt(50) - 4 : random.nextInt(Math.max(1, m.letters.size()));
        String name;
        int got;
        int want;
        switch (kind) {
            case 0 -> {
                name = "make(" + a + ", " + b + ", " + c + ")";
                got = x.make(a, b, c);
                want = m.make(a, b, c);
                if (Model.three(a) && Model.three(b) && Model.three(c) && want == NONE) {
                    fullSeen++;
                }
            }
            case 1 -> {
                name = "load(" + a + ", " + b + ", " + f + ", " + c + ")";
                got = x.load(a, b, f, c);
                want = m.load(a, b, f, c);
            }
            case 2 -> {
                name = "store(" + a + ", " + b + ", " + f + ", " + c + ")";
                got = bit(x.store(a, b, f, c));
                want = bit(m.store(a, b, f, c));
            }
            case 3 -> {
                name = "move(" + a + ", " + b + ", " + c + ", " + d + ")";
                got = bit(x.move(a, b, c, d));
                want = bit(m.move(a, b, c, d));
            }
            case 4 -> {
                name = "drop(" + a + ", " + b + ")";
                got = bit(x.drop(a, b));
                want = bit(m.drop(a, b));
            }
            case 5 -> {
                name = "collect(" + a + ")";
                got = x.collect(a);
                want = m.collect(a);
                freed += Math.max(0, want);
                if (Model.three(a) && want == NONE) {
                    refusedCollects++;
                }
            }
            case 6 -> {
                name = "deliver(" + i + ")";
                got = bit(x.deliver(i));
                want = bit(m.deliver(i));
            }
            default -> {
                name = "round()";
                got = x.round();
                want = m.round();
                taken += want;
            }
        }
        same(name, got, want);
        return name;
    }

    private static void takeAllEntries(StampedHeaps x, Model m) {
        try {
            Field threshold = StampedHeaps.class.getDeclaredField("threshold");
            threshold.setAccessible(true);
            int before = m.threshold;
            threshold.setInt(x, NEVER);
            m.threshold = NEVER;
            same("round() that takes all entries away", x.round(), m.round());
            threshold.setInt(x, before);
            m.threshold = before;
        } catch (ReflectiveOperationException e) {
            throw new IllegalStateException(e);
        }
    }

    private static void run(int seed) {
        Random random = new Random(seed);
        int[] weights = new int[8];
        for (int k = 0; k < weights.length; k++) {
            weights[k] = 1 + random.nextInt(10);
        }
        weights[6] += random.nextInt(3) * 10;
        StampedHeaps x = new StampedHeaps();
        Model m = new Model();
        int before = wrong;
        for (int call = 1; call <= CALLS && wrong == before; call++) {
            String name = call(random, weights, x, m);
            if (seed % 2 == 1 && random.nextInt(100) == 0) {
                name += " and all entries taken away";
                takeAllEntries(x, m);
            }
            compareState("run " + seed + ", call " + call + ", after " + name, x, m);
        }
    }

    /** The runs are of use only if they come to what is rare. */
    private static void came(String what, int times) {
        if (times == 0) {
            wrong++;
            System.out.println("no run came to this: " + what);
        }
    }

    public static void main(String[] args) {
        for (int seed = 1; seed <= RUNS; seed++) {
            run(seed);
        }
        came("an object freed", freed);
        came("an entry taken away", taken);
        came("a field with a dead reference", deadSeen);
        came("an owner with 8 objects", fullSeen);
        came("a root with a dead reference", deadRoots);
        came("a message for an object that was freed", deadLetters);
        came("a collect refused for its messages and exits", refusedCollects);
        System.out.println(wrong == 0 ? "all answers are as due" : wrong + " answers are not as due");
        if (wrong != 0) {
            System.exit(1);
        }
    }
}
