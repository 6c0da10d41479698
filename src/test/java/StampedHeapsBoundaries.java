import java.lang.reflect.Field;
import java.util.ArrayList;
import java.util.List;
import java.util.Random;

/**
 * A test of its own for each sentence of the document that names a boundary case. A test is a run of calls on a new
 * object, never more than the 512 that the document promises for. Behind every refused call, and every question, other
 * objects are led through the same calls with it and without it, and must answer alike ever after. Answers that are not
 * as due are printed with the test's name; exit code 1 if there are any.
 */
public final class StampedHeapsBoundaries {
    private static final int NONE = -1;
    private static final int NEVER = 2147483647;
    private static final int CALLS = 512;
    private static final int LEAST = Integer.MIN_VALUE;
    private static final int MOST = Integer.MAX_VALUE;
    /** The last one times three is 2 again, by wrap-around: it could be taken for a node by its row. */
    private static final int[] NOT_OF_THREE = {-1, 3, -2, 4, LEAST, MOST, 1431655766};
    private static final int[] NOT_OF_TWO = {-1, 2, 3, LEAST, MOST};

    private static int wrong = 0;

    private static void say(String text) {
        wrong++;
        if (wrong <= 40) {
            System.out.println(text);
        }
    }

    /** A call of the face, or setThreshold, which goes past it. */
    private record Call(String text, String name, int[] with) {
        static Call of(String text) {
            String[] parts = text.split("[(), ]+");
            int[] with = new int[parts.length - 1];
            for (int k = 0; k < with.length; k++) {
                with[k] = Integer.parseInt(parts[k + 1]);
            }
            return new Call(text, parts[0], with);
        }

        String on(StampedHeaps x) {
            return switch (name) {
                case "store" -> String.valueOf(x.store(with[0], with[1], with[2], with[3]));
                case "move" -> String.valueOf(x.move(with[0], with[1], with[2], with[3]));
                case "drop" -> String.valueOf(x.drop(with[0], with[1]));
                case "deliver" -> String.valueOf(x.deliver(with[0]));
                default -> String.valueOf(number(x));
            };
        }

        private int number(StampedHeaps x) {
            return switch (name) {
                case "make" -> x.make(with[0], with[1], with[2]);
                case "load" -> x.load(with[0], with[1], with[2], with[3]);
                case "collect" -> x.collect(with[0]);
                case "round" -> x.round();
                case "root" -> x.root(with[0], with[1]);
                case "field" -> x.field(with[0], with[1]);
                case "owner" -> x.owner(with[0]);
                case "objects" -> x.objects(with[0]);
                case "entry" -> x.entry(with[0]);
                case "exit" -> x.exit(with[0], with[1]);
                case "messages" -> x.messages();
                case "message" -> x.message(with[0], with[1]);
                case "redo" -> x.redo(with[0]);
                case "threshold" -> x.threshold();
                case "setThreshold" -> setThreshold(x, with[0]);
                default -> throw new IllegalArgumentException(text);
            };
        }

        /** What a refused call answers. */
        String refusal() {
            return switch (name) {
                case "store", "move", "drop", "deliver" -> "false";
                default -> String.valueOf(NONE);
            };
        }

        boolean isQuestion() {
            return switch (name) {
                case "root", "field", "owner", "objects", "entry", "exit", "messages", "message", "redo",
                        "threshold" -> true;
                default -> false;
            };
        }
    }

    /**
     * No run of calls is known that leaves a root with a dead reference, a message without its entry, or a least redo
     * below THRESHOLD: what roots reach is never freed. The tests come to them by a THRESHOLD set past the face.
     */
    private static int setThreshold(StampedHeaps x, int value) {
        try {
            Field threshold = StampedHeaps.class.getDeclaredField("threshold");
            threshold.setAccessible(true);
            threshold.setInt(x, value);
            return value;
        } catch (ReflectiveOperationException e) {
            throw new IllegalStateException(e);
        }
    }

    private static String call(String name, int... with) {
        StringBuilder text = new StringBuilder(name).append('(');
        for (int k = 0; k < with.length; k++) {
            text.append(k == 0 ? "" : ", ").append(with[k]);
        }
        return text.append(')').toString();
    }

    /** A test: one run of calls on one new object. */
    private static final class Run {
        private static final int QUESTIONS_A_TIME = 80;
        private static final int LATER_CALLS = 120;
        private static final int LATER_RUNS = 4;

        private final String name;
        private final StampedHeaps x = new StampedHeaps();
        /** The calls so far that change anything. */
        private final List<Call> changes = new ArrayList<>();
        private int count;

        Run(String name) {
            this.name = name;
        }

        private String answer(Call call) {
            count++;
            if (count > CALLS) {
                say(name + ": the test makes more than " + CALLS + " calls");
            }
            return call.on(x);
        }

        private void take(Call call, String want) {
            String got = answer(call);
            if (!got.equals(want)) {
                say(name + ": call " + count + ", " + call.text + ", answered " + got + ", due is " + want);
            }
            if (!call.isQuestion()) {
                changes.add(call);
            }
        }

        Run due(String call, int want) {
            take(Call.of(call), String.valueOf(want));
            return this;
        }

        /** Calls that are due to answer true. */
        Run done(String... calls) {
            for (String call : calls) {
                take(Call.of(call), "true");
            }
            return this;
        }

        /** Past the face: not a call. */
        Run setThreshold(int value) {
            Call call = Call.of(call("setThreshold", value));
            call.on(x);
            changes.add(call);
            return this;
        }

        Run refused(String text) {
            Call call = Call.of(text);
            String got = answer(call);
            if (!got.equals(call.refusal())) {
                say(name + ": call " + count + ", " + text + ", answered " + got + ", due is " + call.refusal());
            }
            changesNothing(call);
            return this;
        }

        /** A question without an answer. */
        Run none(String question) {
            due(question, NONE);
            changesNothing(Call.of(question));
            return this;
        }

        void changesNothing(Call call) {
            List<Call> with = new ArrayList<>(changes);
            with.add(call);
            for (int seed = 0; seed < LATER_RUNS; seed++) {
                List<Call> later = seed == 0 ? List.of() : laterCalls(seed);
                List<Call> questions = questions(later);
                for (int from = 0; from < questions.size(); from += QUESTIONS_A_TIME) {
                    List<Call> behind = new ArrayList<>(later);
                    behind.addAll(questions.subList(from, Math.min(questions.size(), from + QUESTIONS_A_TIME)));
                    compare(call, with, behind);
                }
            }
        }

        private void compare(Call call, List<Call> with, List<Call> behind) {
            if (with.size() + behind.size() > CALLS) {
                say(name + ": " + call.text + " is looked at with more than " + CALLS + " calls");
            }
            StampedHeaps other = new StampedHeaps();
            StampedHeaps plain = new StampedHeaps();
            with.forEach(each -> each.on(other));
            changes.forEach(each -> each.on(plain));
            for (int k = 0; k < behind.size(); k++) {
                String got = behind.get(k).on(other);
                String want = behind.get(k).on(plain);
                if (!got.equals(want)) {
                    say(name + ": after " + call.text + " and " + k + " calls more, " + behind.get(k).text
                            + " answered " + got + ", without " + call.text + " it answers " + want);
                    return;
                }
            }
        }

        private List<Call> laterCalls(int seed) {
            Random random = new Random(seed);
            List<Call> later = new ArrayList<>();
            for (int k = 0; k < LATER_CALLS; k++) {
                int a = random.nextInt(3);
                int b = random.nextInt(3);
                int c = random.nextInt(3);
                int f = random.nextInt(2);
                later.add(Call.of(switch (random.nextInt(12)) {
                    case 0, 1 -> call("make", a, b, c);
                    case 2 -> call("load", a, b, f, c);
                    case 3, 4 -> call("store", a, b, f, c);
                    case 5 -> call("move", a, b, (a + 1 + f) % 3, c);
                    case 6 -> call("drop", a, b);
                    case 7, 8, 9 -> call("collect", a);
                    case 10 -> call("deliver", c);
                    default -> call("round");
                }));
            }
            return later;
        }

        /** Everything that the face shows. */
        private List<Call> questions(List<Call> later) {
            List<Call> all = new ArrayList<>(List.of(Call.of("messages()"), Call.of("threshold()")));
            long made = changes.stream().filter(each -> each.name.equals("make")).count()
                    + later.stream().filter(each -> each.name.equals("make")).count();
            for (int n = 0; n < 3; n++) {
                all.add(Call.of(call("objects", n)));
                all.add(Call.of(call("redo", n)));
                for (int r = 0; r < 3; r++) {
                    all.add(Call.of(call("root", n, r)));
                }
            }
            for (int object = 1; object <= made + 1; object++) {
                all.add(Call.of(call("owner", object)));
                all.add(Call.of(call("entry", object)));
                all.add(Call.of(call("field", object, 0)));
                all.add(Call.of(call("field", object, 1)));
                for (int n = 0; n < 3; n++) {
                    all.add(Call.of(call("exit", n, object)));
                }
            }
            for (int i = 0; i <= 40; i++) {
                for (int what = 0; what < 4; what++) {
                    all.add(Call.of(call("message", i, what)));
                }
            }
            return all;
        }

        /**
         * A run with something of everything: root 2 of every node is empty, the others hold objects; entries, exits,
         * lowered LOWs, two messages, THRESHOLD 2, 8 objects on node 1; clock 18.
         */
        Run busy() {
            due("make(0, 0, 0)", 1).due("make(0, 1, 1)", 2).done("store(0, 0, 0, 1)");
            due("make(1, 0, 1)", 3).done("move(1, 0, 2, 0)");
            due("make(2, 1, 2)", 4).done("store(2, 1, 0, 0)", "store(2, 0, 1, 1)");
            due("collect(0)", 0).due("collect(1)", 0).due("collect(2)", 0);
            due("round()", 0).done("deliver(0)");
            due("make(1, 1, 0)", 5);
            for (int number = 6; number <= 11; number++) {
                due("make(1, 1, 1)", number);
            }
            return this;
        }

        /** Root 1 of node 0 and field 1 of object 1, which root 0 of node 0 holds, hold the freed object 2; clock 4. */
        Run dead() {
            due("make(0, 0, 0)", 1).due("make(0, 1, 1)", 2);
            setThreshold(NEVER).due("round()", 1).setThreshold(0);
            return due("collect(1)", 1).done("store(0, 0, 1, 1)");
        }

        /** Some messages of node 1, for object 1 of node 2: root 0 of node 1 holds it. Clock 1 and as many. */
        Run sent(int messages) {
            due("make(1, 0, 2)", 1);
            for (int k = 0; k < messages; k++) {
                due("collect(1)", 0);
            }
            return due("messages()", messages);
        }

        /** As many exits of node 0, for objects of node 1; root 0 holds the last. */
        Run exits(int exits, int first) {
            for (int k = 0; k < exits; k++) {
                due("make(0, 0, 1)", first + k);
            }
            return this;
        }
    }

    /** For calls that can be refused: they are tried on a new object and on one that has something of everything. */
    private static List<Run> anew(String name) {
        return List.of(new Run(name + " (new)"), new Run(name + " (busy)").busy());
    }

    /* Terms */

    private static void busyHasSomethingOfEverything() {
        Run run = new Run("the busy run").busy();
        int[][] roots = {{1, 2, 0}, {3, 11, 0}, {3, 4, 0}};
        int[] redos = {2, 2, 5};
        for (int n = 0; n < 3; n++) {
            for (int r = 0; r < 3; r++) {
                run.due(call("root", n, r), roots[n][r]);
            }
            run.due(call("redo", n), redos[n]);
        }
        run.due("objects(1)", 8).due("threshold()", 2).due("messages()", 2);
        run.due("entry(2)", 9).due("entry(3)", 5).due("entry(4)", 8).due("entry(5)", 12);
        run.due("exit(0, 2)", 9).due("exit(1, 4)", 10).due("exit(1, 5)", 12).due("exit(2, 3)", 11);
        run.due("message(0, 0)", 1).due("message(1, 0)", 2);
        run.due("make(0, 0, 2)", 12).due("exit(0, 12)", 19);
    }

    private static void numbersCountWhatIsMade() {
        Run run = new Run("terms: objects bear the numbers 1, 2, 3, .. in the order in which they were made");
        run.due("make(2, 2, 0)", 1).refused("make(3, 0, 0)").due("make(0, 0, 2)", 2);
        run.due("collect(0)", 0).due("make(0, 1, 0)", 3).done("drop(0, 1)").due("collect(0)", 1);
        run.due("make(0, 1, 0)", 4).none("owner(3)");
    }

    private static void clockBeginsAtNought() {
        new Run("terms: the clock is 0 at first").due("make(0, 0, 1)", 1).due("exit(0, 1)", 1).due("entry(1)", 1);
    }

    /** The stamp of a reference that arrives tells what the clock says. */
    private static void clockIs(Run run, int clock) {
        Call make = Call.of("make(2, 2, 0)");
        int number = Integer.parseInt(run.answer(make));
        run.due(call("exit", 2, number), clock + 1);
    }

    private static void everyChangingCallTakesTheClockOn() {
        clockIs(new Run("terms: make").due("make(0, 0, 0)", 1), 1);
        clockIs(new Run("terms: load").due("make(0, 0, 0)", 1).due("load(0, 0, 0, 1)", 0), 2);
        clockIs(new Run("terms: store").due("make(0, 0, 0)", 1).done("store(0, 0, 0, 1)"), 2);
        clockIs(new Run("terms: move").done("move(0, 0, 1, 0)"), 1);
        clockIs(new Run("terms: drop").done("drop(0, 0)"), 1);
        clockIs(new Run("terms: collect").due("collect(0)", 0), 1);
    }

    private static void deliverAndRoundLeaveTheClock() {
        clockIs(new Run("terms: round").due("round()", 0), 0);
        clockIs(new Run("terms: deliver").sent(1).done("deliver(0)"), 2);
    }

    private static void questionsChangeNothing() {
        Run run = new Run("questions change nothing").busy();
        for (String question : new String[] {"root(0, 0)", "root(0, 2)", "field(1, 0)", "field(1, 1)", "owner(2)",
            "objects(1)", "entry(2)", "exit(0, 2)", "messages()", "message(1, 3)", "redo(0)", "threshold()"}) {
            run.changesNothing(Call.of(question));
        }
    }

    private static void everyRootIsThereAndItsOwn() {
        Run run = new Run("terms: a root is there for nodes 0 .. 2 and numbers 0 .. 2");
        for (int k = 0; k < 9; k++) {
            run.due(call("make", k / 3, k % 3, k / 3), k + 1);
        }
        for (int k = 0; k < 9; k++) {
            run.due(call("root", k / 3, k % 3), k + 1).done(call("drop", k / 3, k % 3));
            run.due(call("root", k / 3, k % 3), 0);
        }
    }

    private static void arrivingAtTheOwnerMakesNoExit() {
        Run run = new Run("terms: if b is not the owner of x");
        run.due("make(0, 0, 1)", 1).done("move(0, 0, 1, 0)").due("entry(1)", 2).none("exit(1, 1)");
        run.due("exit(0, 1)", 1).done("move(0, 0, 2, 0)").due("exit(2, 1)", 3).due("entry(1)", 3);
    }

    private static void anExitThatIsThereGetsNow() {
        new Run("terms: the exit gets the stamp NOW").due("make(0, 0, 1)", 1).done("move(0, 0, 1, 0)")
                .due("exit(0, 1)", 1).done("move(1, 0, 0, 1)").due("exit(0, 1)", 3).due("entry(1)", 3);
    }

    private static void aNewEntryLowersToTheThreshold() {
        Run run = new Run("terms: LOW becomes the THRESHOLD if it is greater than that");
        run.due("collect(0)", 0).due("collect(1)", 0).due("collect(2)", 0).due("round()", 0).due("threshold()", 1);
        run.due("redo(1)", 2).due("make(0, 0, 1)", 1).due("redo(1)", 1).due("redo(2)", 3);
        run.due("collect(1)", 0).due("redo(1)", 5);
    }

    private static void aNewEntryLeavesALowThatIsNotGreater() {
        Run run = new Run("terms: LOW stays if it is not greater than THRESHOLD");
        run.due("collect(0)", 0).due("collect(1)", 0).due("collect(2)", 0).due("round()", 0);
        run.due("make(0, 0, 1)", 1).due("redo(1)", 1).due("make(0, 0, 1)", 2).due("redo(1)", 1);
    }

    private static void raisingLowersToTheOldStamp() {
        Run run = new Run("terms: LOW becomes s if it is greater than s");
        run.due("make(0, 0, 1)", 1).due("make(0, 1, 1)", 2).due("collect(1)", 0).due("redo(1)", 3);
        run.done("move(0, 1, 2, 1)").due("entry(2)", 4).due("redo(1)", 2);
        run.done("move(0, 0, 2, 0)").due("entry(1)", 5).due("redo(1)", 1);
    }

    private static void raisingLeavesALowThatIsNotGreater() {
        Run run = new Run("terms: LOW stays if it is not greater than s");
        run.due("make(0, 0, 1)", 1).due("make(0, 1, 1)", 2).due("collect(1)", 0);
        run.done("move(0, 0, 2, 0)").due("redo(1)", 1).done("move(0, 1, 2, 1)").due("redo(1)", 1);
        run.done("move(0, 0, 2, 0)").due("entry(1)", 6).due("redo(1)", 1);
    }

    private static void within512Calls() {
        Run stamps = new Run("the 512th call, stamps");
        for (int k = 0; k < 510; k++) {
            stamps.done("drop(0, 0)");
        }
        stamps.due("make(0, 0, 1)", 1).due("exit(0, 1)", 511);
        Run numbers = new Run("the 512th call, numbers");
        for (int number = 1; number <= 255; number++) {
            numbers.due("make(0, 0, 0)", number).due("collect(0)", number == 1 ? 0 : 1);
        }
        numbers.due("make(0, 0, 0)", 256).due("owner(256)", 0);
    }

    /* Promise 1 */

    private static void newObject() {
        Run run = new Run("1: no objects, all roots empty, no entries, exits and messages");
        for (int n = 0; n < 3; n++) {
            for (int r = 0; r < 3; r++) {
                run.due(call("root", n, r), 0);
            }
            run.due(call("objects", n), 0).due(call("redo", n), 0);
            for (int object = 0; object < 3; object++) {
                run.none(call("exit", n, object));
            }
        }
        for (int object = 0; object < 3; object++) {
            run.none(call("owner", object)).none(call("entry", object));
            run.none(call("field", object, 0)).none(call("field", object, 1));
        }
        run.due("messages()", 0).due("threshold()", 0).none("message(0, 0)").refused("deliver(0)");
        run.due("round()", 0).due("collect(0)", 0).due("collect(1)", 0).due("collect(2)", 0).due("messages()", 0);
    }

    private static void objectsOfTheClassAreApart() {
        StampedHeaps one = new StampedHeaps();
        one.make(0, 0, 1);
        one.collect(0);
        newObject();
    }

    /* Promise 2 */

    private static void makeNoSuchNode() {
        for (Run run : anew("2: no such node n")) {
            for (int bad : NOT_OF_THREE) {
                run.refused(call("make", bad, 0, 0)).refused(call("make", bad, 2, 2));
            }
        }
    }

    private static void makeNoSuchRoot() {
        for (Run run : anew("2: no such root r")) {
            for (int bad : NOT_OF_THREE) {
                for (int n = 0; n < 3; n++) {
                    run.refused(call("make", n, bad, 0));
                }
            }
        }
    }

    private static void makeNoSuchOwner() {
        for (Run run : anew("2: no such node owner")) {
            for (int bad : NOT_OF_THREE) {
                run.refused(call("make", 0, 0, bad)).refused(call("make", 2, 2, bad));
                run.refused(call("make", bad, bad, bad));
            }
        }
    }

    private static void makeOwnerHasEight() {
        for (int owner = 0; owner < 3; owner++) {
            Run run = new Run("2: the owner " + owner + " has 8 objects");
            for (int number = 1; number <= 8; number++) {
                run.due(call("objects", owner), number - 1).due(call("make", owner, 0, owner), number);
            }
            run.due(call("objects", owner), 8);
            for (int n = 0; n < 3; n++) {
                for (int r = 0; r < 3; r++) {
                    run.refused(call("make", n, r, owner));
                }
            }
            run.due(call("objects", owner), 8).due(call("root", owner, 0), 8);
            run.due(call("make", owner, 1, (owner + 1) % 3), 9).due(call("entry", 9), 9);
        }
    }

    private static void makeRoomAfterCollecting() {
        Run run = new Run("2: the owner has 8 objects until one is freed");
        for (int number = 1; number <= 8; number++) {
            run.due(call("make", number % 3, 0, 1), number);
        }
        run.due("make(1, 1, 0)", 9).done("drop(1, 0)").refused("make(1, 0, 1)");
        run.due("collect(1)", 3).due("objects(1)", 5);
        run.due("make(1, 0, 1)", 10).due("make(1, 0, 1)", 11).due("make(0, 1, 1)", 12).refused("make(0, 2, 1)");
        run.due("field(12, 0)", 0).due("field(12, 1)", 0).none("owner(1)").none("owner(4)").none("owner(7)");
    }

    private static void makeWhereAnObjectWasFreed() {
        Run run = new Run("2: its fields are empty, also where an object was freed");
        run.due("make(0, 0, 0)", 1).done("store(0, 0, 0, 0)", "store(0, 0, 1, 0)", "drop(0, 0)").due("collect(0)", 1);
        for (int number = 2; number <= 9; number++) {
            run.due("make(0, 0, 0)", number).due(call("field", number, 0), 0).due(call("field", number, 1), 0);
            run.none(call("entry", number));
        }
    }

    private static void makeAllNodesFull() {
        Run run = new Run("2: every node has 8 objects");
        for (int number = 1; number <= 24; number++) {
            run.due(call("make", 0, 0, number % 3), number);
        }
        for (int owner = 0; owner < 3; owner++) {
            run.due(call("objects", owner), 8).refused(call("make", 0, 1, owner)).refused(call("make", 2, 2, owner));
        }
    }

    private static void makeOwnDoesNotArrive() {
        Run run = new Run("2: owner is n");
        for (int n = 0; n < 3; n++) {
            run.due(call("make", n, n, n), n + 1).none(call("entry", n + 1)).due(call("root", n, n), n + 1);
            for (int m = 0; m < 3; m++) {
                run.none(call("exit", m, n + 1));
            }
        }
    }

    private static void makeElsewhereArrives() {
        Run run = new Run("2: owner is not n");
        int number = 0;
        for (int n = 0; n < 3; n++) {
            for (int step = 1; step < 3; step++) {
                number++;
                run.due(call("make", n, step, (n + step) % 3), number).due(call("entry", number), number);
                run.due(call("exit", n, number), number).none(call("exit", (n + step) % 3, number));
                run.due(call("owner", number), (n + step) % 3).due(call("root", n, step), number);
            }
        }
    }

    /* Promise 3 */

    private static void loadNoSuchNode() {
        for (Run run : anew("3: no such node")) {
            for (int bad : NOT_OF_THREE) {
                run.refused(call("load", bad, 0, 0, 1)).refused(call("load", bad, 1, 0, 2));
            }
        }
    }

    private static void loadNoSuchRoot() {
        for (Run run : anew("3: no such root r")) {
            for (int bad : NOT_OF_THREE) {
                for (int n = 0; n < 3; n++) {
                    run.refused(call("load", n, bad, 0, 1));
                }
            }
        }
    }

    private static void loadNoSuchRootTo() {
        for (Run run : anew("3: no such root to")) {
            for (int bad : NOT_OF_THREE) {
                for (int n = 0; n < 3; n++) {
                    run.refused(call("load", n, 0, 0, bad)).refused(call("load", n, bad, 0, bad));
                }
            }
        }
    }

    private static void loadNoSuchField() {
        for (Run run : anew("3: no such field")) {
            for (int bad : NOT_OF_TWO) {
                for (int n = 0; n < 3; n++) {
                    run.refused(call("load", n, 0, bad, 2)).refused(call("load", n, 1, bad, 2));
                }
            }
        }
    }

    private static void loadRootEmpty() {
        for (Run run : anew("3: root r is empty")) {
            for (int n = 0; n < 3; n++) {
                for (int f = 0; f < 2; f++) {
                    run.refused(call("load", n, 2, f, 0)).refused(call("load", n, 2, f, 2));
                }
            }
        }
        new Run("3: root r is empty again").due("make(0, 0, 0)", 1).due("load(0, 0, 0, 1)", 0).done("drop(0, 0)")
                .refused("load(0, 0, 0, 1)");
    }

    private static void loadRootDead() {
        Run run = new Run("3: root r's reference is dead").dead();
        for (int f = 0; f < 2; f++) {
            run.refused(call("load", 0, 1, f, 2)).refused(call("load", 0, 1, f, 1));
        }
        run.done("move(0, 1, 1, 0)").refused("load(1, 0, 0, 1)").done("move(0, 1, 2, 0)").refused("load(2, 0, 1, 0)");
    }

    private static void loadNothing() {
        Run run = new Run("3: 0 for nothing");
        run.due("make(0, 0, 0)", 1).due("make(0, 1, 1)", 2).due("make(0, 2, 2)", 3);
        run.due("load(0, 0, 0, 2)", 0).due("root(0, 2)", 0).due("load(0, 1, 1, 1)", 0).due("root(0, 1)", 0);
        run.due("entry(2)", 2).due("entry(3)", 3);
        clockIs(run, 5);
    }

    private static void loadOwnFieldDoesNotArrive() {
        Run run = new Run("3: a field of an object of the roots' own node");
        run.due("make(0, 0, 0)", 1).due("make(0, 1, 1)", 2).done("store(0, 0, 0, 1)", "store(0, 0, 1, 0)");
        run.due("load(0, 0, 0, 2)", 2).due("entry(2)", 2).due("exit(0, 2)", 2);
        run.due("load(0, 0, 1, 2)", 1).none("entry(1)").none("exit(0, 1)");
    }

    private static void loadFieldOfAnotherNodeArrives() {
        Run run = new Run("3: a field of an object of another node");
        run.due("make(0, 0, 1)", 1).due("make(0, 1, 2)", 2).due("make(0, 2, 0)", 3);
        run.done("store(0, 0, 0, 1)", "store(0, 0, 1, 2)").due("exit(1, 2)", 4).due("exit(1, 3)", 5);
        run.due("load(0, 0, 0, 1)", 2).due("entry(2)", 6).due("exit(0, 2)", 6).due("exit(1, 2)", 4);
        run.due("load(0, 0, 1, 2)", 3).due("entry(3)", 7).none("exit(0, 3)").due("exit(1, 3)", 5);
    }

    private static void loadIntoRootR() {
        new Run("3: to is r").due("make(0, 0, 0)", 1).due("make(0, 1, 1)", 2).done("store(0, 0, 1, 1)")
                .due("load(0, 0, 1, 0)", 2).due("root(0, 0)", 2).due("field(1, 1)", 2).due("load(0, 0, 1, 0)", 0)
                .due("root(0, 0)", 0).refused("load(0, 0, 1, 0)");
    }

    private static void loadOfADeadReference() {
        Run run = new Run("3: a field's reference is dead").dead();
        run.due("load(0, 0, 1, 2)", 2).due("root(0, 2)", 2).done("move(0, 0, 2, 0)");
        run.due("load(2, 0, 1, 1)", 2).due("root(2, 1)", 2).none("exit(2, 2)").none("entry(2)").due("exit(0, 2)", 2);
        run.done("move(0, 0, 1, 0)").due("load(1, 0, 1, 1)", 2).none("entry(2)");
        clockIs(run, 9);
    }

    /* Promise 4 */

    private static void storeNoSuchNode() {
        for (Run run : anew("4: no such node")) {
            for (int bad : NOT_OF_THREE) {
                run.refused(call("store", bad, 0, 0, 1)).refused(call("store", bad, 1, 0, 2));
            }
        }
    }

    private static void storeNoSuchRoot() {
        for (Run run : anew("4: no such root r")) {
            for (int bad : NOT_OF_THREE) {
                for (int n = 0; n < 3; n++) {
                    run.refused(call("store", n, bad, 0, 1));
                }
            }
        }
    }

    private static void storeNoSuchRootFrom() {
        for (Run run : anew("4: no such root from")) {
            for (int bad : NOT_OF_THREE) {
                for (int n = 0; n < 3; n++) {
                    run.refused(call("store", n, 0, 0, bad)).refused(call("store", n, bad, 0, bad));
                }
            }
        }
    }

    private static void storeNoSuchField() {
        for (Run run : anew("4: no such field")) {
            for (int bad : NOT_OF_TWO) {
                for (int n = 0; n < 3; n++) {
                    run.refused(call("store", n, 0, bad, 1)).refused(call("store", n, 1, bad, 0));
                }
            }
        }
    }

    private static void storeRootEmpty() {
        for (Run run : anew("4: root r is empty")) {
            for (int n = 0; n < 3; n++) {
                for (int f = 0; f < 2; f++) {
                    run.refused(call("store", n, 2, f, 0)).refused(call("store", n, 2, f, 2));
                }
            }
        }
        new Run("4: root r is empty again").due("make(0, 0, 0)", 1).done("store(0, 0, 0, 0)", "drop(0, 0)")
                .refused("store(0, 0, 0, 0)").due("field(1, 0)", 1);
    }

    private static void storeRootDead() {
        Run run = new Run("4: root r's reference is dead").dead();
        for (int f = 0; f < 2; f++) {
            run.refused(call("store", 0, 1, f, 0)).refused(call("store", 0, 1, f, 1));
            run.refused(call("store", 0, 1, f, 2));
        }
        run.done("move(0, 1, 1, 0)").refused("store(1, 0, 0, 1)").done("move(0, 1, 2, 0)").refused("store(2, 0, 1, 0)");
    }

    private static void storeNothing() {
        Run run = new Run("4: root from holds nothing");
        run.due("make(0, 0, 0)", 1).due("make(0, 1, 1)", 2);
        run.done("store(0, 0, 0, 1)", "store(0, 1, 1, 0)").due("field(1, 0)", 2).due("field(2, 1)", 1);
        run.due("entry(1)", 4).done("store(0, 0, 0, 2)", "store(0, 1, 1, 2)").due("field(1, 0)", 0);
        run.due("field(2, 1)", 0).due("entry(1)", 4).due("entry(2)", 2);
        clockIs(run, 6);
    }

    private static void storeOnOwnNodeDoesNotArrive() {
        Run run = new Run("4: a root of the object's own node");
        run.due("make(0, 0, 0)", 1).due("make(0, 1, 1)", 2).done("store(0, 0, 0, 1)", "store(0, 0, 1, 0)");
        run.due("entry(2)", 2).due("exit(0, 2)", 2).none("entry(1)").due("field(1, 0)", 2).due("field(1, 1)", 1);
    }

    private static void storeOnAnotherNodeArrives() {
        Run run = new Run("4: a root of another node than the object's");
        run.due("make(0, 0, 1)", 1).due("make(0, 1, 2)", 2).due("make(0, 2, 0)", 3);
        run.done("store(0, 0, 0, 1)").due("entry(2)", 4).due("exit(1, 2)", 4).due("exit(0, 2)", 2);
        run.done("store(0, 0, 1, 2)").due("entry(3)", 5).due("exit(1, 3)", 5).none("exit(0, 3)");
        run.done("store(0, 0, 1, 0)").due("entry(1)", 6).none("exit(1, 1)").due("field(1, 1)", 1);
    }

    private static void storeOfADeadReference() {
        Run run = new Run("4: root from's reference is dead").dead();
        run.done("store(0, 0, 0, 1)").due("field(1, 0)", 2).due("make(0, 2, 2)", 3).done("store(0, 2, 1, 1)");
        run.due("field(3, 1)", 2).none("exit(2, 2)").none("entry(2)").due("exit(0, 2)", 2);
        clockIs(run, 7);
    }

    /* Promise 5 */

    private static void moveNoSuchNode() {
        for (Run run : anew("5: no such node n or m")) {
            for (int bad : NOT_OF_THREE) {
                run.refused(call("move", bad, 0, 1, 0)).refused(call("move", 0, 0, bad, 0));
                run.refused(call("move", bad, 0, bad, 1));
            }
        }
    }

    private static void moveNoSuchRoot() {
        for (Run run : anew("5: no such root r of n")) {
            for (int bad : NOT_OF_THREE) {
                for (int n = 0; n < 3; n++) {
                    run.refused(call("move", n, bad, (n + 1) % 3, 0));
                }
            }
        }
    }

    private static void moveNoSuchRootQ() {
        for (Run run : anew("5: no such root q of m")) {
            for (int bad : NOT_OF_THREE) {
                for (int n = 0; n < 3; n++) {
                    run.refused(call("move", n, 0, (n + 1) % 3, bad)).refused(call("move", n, bad, (n + 2) % 3, bad));
                }
            }
        }
    }

    private static void moveSameNode() {
        for (Run run : anew("5: n is m")) {
            for (int n = 0; n < 3; n++) {
                for (int q = 0; q < 3; q++) {
                    run.refused(call("move", n, 0, n, q)).refused(call("move", n, 2, n, q));
                }
            }
        }
    }

    private static void moveNothing() {
        Run run = new Run("5: root r holds nothing");
        run.due("make(1, 0, 2)", 1).done("move(0, 0, 1, 0)").due("root(1, 0)", 0).due("entry(1)", 1);
        run.due("exit(1, 1)", 1).due("redo(2)", 0);
        clockIs(run, 2);
    }

    private static void moveBetweenAllNodes() {
        for (int n = 0; n < 3; n++) {
            for (int step = 1; step < 3; step++) {
                int m = (n + step) % 3;
                Run run = new Run("5: from node " + n + " to node " + m);
                run.due(call("make", n, 2, n), 1).none("entry(1)").done(call("move", n, 2, m, 1));
                run.due(call("root", m, 1), 1).due(call("root", n, 2), 1).due("entry(1)", 2).due(call("exit", m, 1), 2);
                run.done(call("move", m, 1, n, 0)).due(call("root", n, 0), 1).due("entry(1)", 3);
                run.none(call("exit", n, 1)).due(call("exit", m, 1), 2);
            }
        }
    }

    private static void moveOfADeadReference() {
        Run run = new Run("5: root r's reference is dead").dead();
        run.done("move(0, 1, 2, 2)").due("root(2, 2)", 2).none("exit(2, 2)").none("entry(2)");
        run.done("move(0, 1, 1, 1)").due("root(1, 1)", 2).none("exit(1, 2)").none("entry(2)").none("owner(2)");
        run.done("move(2, 2, 0, 2)").due("root(0, 2)", 2).due("exit(0, 2)", 2).due("redo(1)", 3);
        clockIs(run, 7);
    }

    /* Promise 6 */

    private static void dropNoSuchNode() {
        for (Run run : anew("6: no such node")) {
            for (int bad : NOT_OF_THREE) {
                run.refused(call("drop", bad, 0)).refused(call("drop", bad, 1)).refused(call("drop", bad, bad));
            }
        }
    }

    private static void dropNoSuchRoot() {
        for (Run run : anew("6: no such root")) {
            for (int bad : NOT_OF_THREE) {
                for (int n = 0; n < 3; n++) {
                    run.refused(call("drop", n, bad));
                }
            }
        }
    }

    private static void dropOfAnEmptyRoot() {
        Run run = new Run("6: the root is empty already");
        run.done("drop(0, 0)", "drop(2, 2)").due("root(0, 0)", 0).due("make(0, 0, 0)", 1);
        run.done("drop(0, 0)", "drop(0, 0)").due("root(0, 0)", 0).due("owner(1)", 0);
        clockIs(run, 5);
    }

    private static void dropOfADeadReference() {
        Run run = new Run("6: the root's reference is dead").dead();
        run.done("drop(0, 1)").due("root(0, 1)", 0).due("field(1, 1)", 2).due("exit(0, 2)", 2);
        clockIs(run, 5);
    }

    /* Promise 7 */

    private static void collectNoSuchNode() {
        for (Run run : anew("7: no such node")) {
            for (int bad : NOT_OF_THREE) {
                run.refused(call("collect", bad));
            }
        }
    }

    /** Exits of other nodes, here the one of node 1, are not counted for node 0. */
    private static void collectFortyTogether() {
        for (int exits = 0; exits <= 8; exits++) {
            Run run = new Run("7: " + (40 - exits) + " messages and " + exits + " exits of n");
            run.sent(40 - exits).exits(exits, 2).due("collect(0)", 0).due("redo(0)", exits == 0 ? 42 : 41);
            run.due("messages()", exits == 0 ? 40 : 41 - exits);
        }
    }

    private static void collectMoreThanFortyTogether() {
        for (int exits = 1; exits <= 8; exits++) {
            Run run = new Run("7: " + (41 - exits) + " messages and " + exits + " exits of n");
            run.sent(41 - exits).exits(exits, 2).refused("collect(0)").due("redo(0)", 0);
            run.due("messages()", 41 - exits).done("deliver(0)").due("collect(0)", 0);
        }
    }

    private static void collectManyMoreThanForty() {
        Run run = new Run("7: 40 messages and 8 exits of n").sent(40).exits(8, 2);
        run.refused("collect(0)").refused("collect(1)").due("collect(2)", 0);
        for (int left = 39; left >= 33; left--) {
            run.done("deliver(0)").refused("collect(0)").due("messages()", left);
        }
        run.done("deliver(0)").due("collect(0)", 0).due("messages()", 33);
    }

    /** The messages of other nodes are counted, and those of n itself. */
    private static void collectCountsAllMessages() {
        Run run = new Run("7: messages of n and of other nodes");
        run.due("make(0, 0, 2)", 1).due("make(1, 0, 2)", 2);
        for (int k = 0; k < 20; k++) {
            run.due("collect(0)", 0).due("collect(1)", 0);
        }
        run.due("messages()", 40).refused("collect(0)").refused("collect(1)").done("deliver(39)");
        run.due("collect(0)", 0).due("messages()", 40).refused("collect(0)").refused("collect(1)");
        run.due("message(39, 0)", 0).due("collect(2)", 0);
    }

    /**
     * Eight objects of node 0, the numbers 1, 4, .. 22, with a field for an object of node 1 and one for an object of
     * node 2 each. They are freed on nodes 1 and 2 and not yet on node 0: its fields and 16 of its exits are for freed
     * objects. Then sixteen new objects make it 32 exits; more were never seen. The last of them, object 40 of node 2,
     * is held by a root of node 1 too. Clock 74.
     */
    private static Run withManyExits(String name) {
        Run run = new Run(name);
        for (int k = 0; k < 8; k++) {
            run.due("make(0, 0, 0)", 3 * k + 1).due("make(0, 1, 1)", 3 * k + 2).due("make(0, 2, 2)", 3 * k + 3);
            run.done("store(0, 0, 0, 1)", "store(0, 0, 1, 2)", "move(0, 0, 1, 0)");
        }
        run.done("drop(0, 0)", "drop(0, 1)", "drop(0, 2)", "drop(1, 0)").due("collect(0)", 0).due("messages()", 16);
        for (int k = 0; k < 16; k++) {
            run.done("deliver(0)");
        }
        run.due("collect(1)", 0).due("collect(2)", 0).due("round()", 24).due("threshold()", 53);
        run.due("collect(1)", 8).due("collect(2)", 8);
        for (int k = 0; k < 16; k++) {
            run.due(call("make", 0, 0, 1 + k % 2), 25 + k);
        }
        return run.done("move(0, 0, 1, 0)");
    }

    private static void collectWithManyExits() {
        Run run = withManyExits("7: 8 messages and 32 exits of n");
        for (int k = 0; k < 8; k++) {
            run.due("collect(1)", 0);
        }
        run.due("messages()", 8).due("objects(0)", 8).due("exit(0, 2)", 6).due("exit(0, 24)", 48);
        run.due("exit(0, 25)", 58).due("exit(0, 40)", 73).due("collect(0)", 8).due("objects(0)", 0);
        run.none("exit(0, 2)").none("exit(0, 24)").none("exit(0, 25)").due("exit(0, 40)", 83).due("messages()", 9);
        run.due("message(8, 0)", 0).due("message(8, 1)", 40).due("message(8, 2)", 83).due("message(8, 3)", 73);
    }

    private static void collectWithTooManyExits() {
        Run run = withManyExits("7: 9 messages and 32 exits of n");
        for (int k = 0; k < 9; k++) {
            run.due("collect(1)", 0);
        }
        run.refused("collect(0)").due("objects(0)", 8).due("exit(0, 2)", 6).due("exit(0, 40)", 73);
        run.done("deliver(0)").due("collect(0)", 8);
    }

    private static void collectNothingToFree() {
        Run run = new Run("7: no objects, and none to free");
        run.due("collect(0)", 0).due("make(0, 0, 0)", 1).due("collect(0)", 0).due("collect(0)", 0).due("redo(0)", 4);
    }

    private static void collectFreesAllEight() {
        Run run = new Run("7: all 8 objects freed");
        for (int number = 1; number <= 8; number++) {
            run.due("make(0, 0, 0)", number);
        }
        run.done("drop(0, 0)").due("collect(0)", 8).due("objects(0)", 0).due("collect(0)", 0);
    }

    private static void collectFreesOnNodeNAlone() {
        Run run = new Run("7: objects of n alone are freed");
        for (int n = 0; n < 3; n++) {
            run.due(call("make", n, 0, n), n + 1).done(call("drop", n, 0));
        }
        run.due("collect(1)", 1).due("owner(1)", 0).none("owner(2)").due("owner(3)", 2);
    }

    private static void collectKeepsWhatARootAloneReaches() {
        Run run = new Run("7: reached with the stamp of a root");
        run.due("make(0, 0, 0)", 1).due("make(0, 1, 0)", 2).done("store(0, 0, 1, 1)", "drop(0, 1)");
        run.due("collect(0)", 0).done("drop(0, 0)").due("collect(0)", 2);
    }

    private static void collectKeepsWhatAnEntryAloneReaches() {
        Run run = new Run("7: reached with the stamp of an entry");
        run.due("make(0, 0, 0)", 1).due("make(0, 1, 0)", 2).done("store(0, 0, 1, 1)", "move(0, 0, 1, 0)");
        run.done("drop(0, 0)", "drop(0, 1)", "drop(1, 0)").due("collect(0)", 0).due("objects(0)", 2);
    }

    /** A root of another node, without an entry, does not reach: only by setThreshold does it come to that. */
    private static void rootsOfOtherNodesDoNotReach() {
        Run run = new Run("7: the roots of n alone");
        run.due("make(0, 0, 1)", 1).setThreshold(NEVER).due("round()", 1).setThreshold(0);
        run.due("collect(1)", 1).due("root(0, 0)", 1).none("owner(1)").due("exit(0, 1)", 1);
    }

    private static void exitsReachedWithNoStampAreTakenAway() {
        Run run = new Run("7: exits that are reached with no stamp");
        run.due("make(0, 0, 1)", 1).due("make(0, 1, 1)", 2).done("drop(0, 0)").due("exit(0, 1)", 1);
        run.due("collect(0)", 0).none("exit(0, 1)").due("exit(0, 2)", 4).due("messages()", 1).due("entry(1)", 1);
    }

    private static void exitsOfUnreachedObjectsAreTakenAway() {
        Run run = new Run("7: exits that freed objects alone held");
        run.due("make(0, 0, 0)", 1).due("make(0, 1, 1)", 2).done("store(0, 0, 0, 1)", "drop(0, 0)", "drop(0, 1)");
        run.due("collect(0)", 1).none("exit(0, 2)").due("messages()", 0).due("entry(2)", 2);
    }

    private static void exitReachedWithAGreaterStamp() {
        Run run = new Run("7: v is greater than w");
        run.due("make(0, 0, 1)", 1).due("make(0, 1, 2)", 2).done("store(0, 0, 0, 1)", "move(0, 0, 2, 0)");
        run.due("exit(1, 2)", 3).due("entry(1)", 4).due("collect(1)", 0).due("exit(1, 2)", 4).due("messages()", 1);
        run.due("message(0, 0)", 1).due("message(0, 1)", 2).due("message(0, 2)", 4).due("message(0, 3)", 3);
        run.due("entry(2)", 3).due("redo(1)", 3);
    }

    private static void exitReachedWithTheSameStamp() {
        Run run = new Run("7: v is w");
        run.due("make(0, 0, 1)", 1).due("make(0, 1, 2)", 2).done("store(0, 0, 0, 1)", "move(0, 0, 2, 0)");
        run.due("collect(1)", 0).done("deliver(0)").due("exit(1, 2)", 4).due("collect(1)", 0);
        run.due("exit(1, 2)", 4).due("messages()", 0).due("redo(1)", 6);
    }

    private static void exitReachedWithALesserStamp() {
        Run run = new Run("7: v is less than w");
        run.due("make(0, 0, 1)", 1).due("make(0, 1, 2)", 2).done("store(0, 0, 0, 1)");
        run.due("exit(1, 2)", 3).due("entry(1)", 1).due("collect(1)", 0).due("exit(1, 2)", 3).due("messages()", 0);
        run.due("redo(1)", 4);
    }

    private static void messagesByAscendingNumbers() {
        Run run = new Run("7: by ascending numbers of their objects");
        run.due("make(1, 0, 1)", 1).due("make(2, 0, 2)", 2).due("make(1, 1, 1)", 3);
        run.done("move(1, 1, 0, 0)", "move(2, 0, 0, 1)", "move(1, 0, 0, 2)").due("collect(0)", 0).due("messages()", 3);
        for (int i = 0; i < 3; i++) {
            run.due(call("message", i, 1), i + 1).due(call("message", i, 2), 7).due(call("message", i, 3), 6 - i);
        }
    }

    private static void deadReferencesReachTheirExits() {
        Run run = new Run("7: the object of an exit was freed").dead();
        run.due("collect(0)", 0).due("exit(0, 2)", 5).due("messages()", 1).due("message(0, 1)", 2);
        run.done("drop(0, 1)").due("collect(0)", 0).due("exit(0, 2)", 7).due("messages()", 2);
        run.done("store(0, 0, 1, 2)").due("collect(0)", 0).none("exit(0, 2)").due("messages()", 2);
    }

    private static void collectSetsLastAndLow() {
        Run run = new Run("7: in the end LAST is NOW and LOW is NEVER");
        run.due("make(0, 0, 1)", 1).due("redo(1)", 0).due("collect(1)", 0).due("redo(1)", 2);
        run.done("move(0, 0, 1, 0)").due("redo(1)", 1).due("collect(1)", 0).due("redo(1)", 4);
        run.due("redo(0)", 0).due("redo(2)", 0);
    }

    /* Promise 8 */

    private static void deliverNoSuchMessage() {
        for (Run run : anew("8: no such message")) {
            for (int bad : new int[] {-1, 2, 3, 39, 40, 41, LEAST, MOST, 1073741824}) {
                run.refused(call("deliver", bad));
            }
        }
        new Run("8: no message").refused("deliver(0)");
        new Run("8: no message left").sent(1).refused("deliver(1)").done("deliver(0)").refused("deliver(0)");
    }

    private static void deliverFirstAndLastOfForty() {
        Run run = new Run("8: the first and the last of 40").sent(40).refused("deliver(40)").refused("deliver(-1)");
        run.done("deliver(39)").due("messages()", 39).due("entry(1)", 41).refused("deliver(39)");
        run.due("message(38, 2)", 40).done("deliver(0)").due("message(0, 2)", 3).due("message(37, 2)", 40);
        run.none("message(38, 2)").due("redo(1)", 2);
    }

    private static void deliverInTheMiddle() {
        Run run = new Run("8: the others stay in their order").sent(5).done("deliver(2)").due("messages()", 4);
        int[] stamps = {2, 3, 5, 6};
        for (int i = 0; i < 4; i++) {
            run.due(call("message", i, 2), stamps[i]);
        }
        run.due("entry(1)", 4);
    }

    private static void deliverAGreaterStamp() {
        Run run = new Run("8: v is greater than the entry's stamp").sent(1).due("collect(2)", 0).due("redo(2)", 3);
        run.done("deliver(0)").due("entry(1)", 2).due("redo(2)", 1).due("redo(1)", 2);
    }

    /** The stamp 4 comes to object 2 by way of node 1 first, and from node 0 after that. */
    private static void deliverTheSameStamp() {
        Run run = new Run("8: v is the entry's stamp");
        run.due("make(0, 0, 1)", 1).due("make(0, 1, 2)", 2).done("store(0, 0, 0, 1)").due("collect(0)", 0);
        run.done("deliver(0)").due("collect(1)", 0).done("deliver(1)").due("entry(2)", 4).due("collect(2)", 0);
        run.due("message(0, 2)", 4).done("deliver(0)").due("entry(2)", 4).due("redo(2)", 6);
    }

    private static void deliverALesserStamp() {
        Run run = new Run("8: v is less than the entry's stamp").sent(1).done("move(1, 0, 0, 0)").due("entry(1)", 3);
        run.due("collect(2)", 0).done("deliver(0)").due("entry(1)", 3).due("redo(2)", 4).due("messages()", 0);
    }

    private static void deliverWithoutAnEntry() {
        Run run = new Run("8: the object has no entry").sent(1).done("move(1, 0, 2, 0)");
        run.setThreshold(NEVER).due("round()", 1).setThreshold(0).due("collect(2)", 0);
        run.done("deliver(0)").none("entry(1)").due("owner(1)", 2).due("redo(2)", 4).due("messages()", 0);
    }

    private static void deliverWithoutAnObject() {
        Run run = new Run("8: the object is not there").sent(1);
        run.setThreshold(NEVER).due("round()", 1).setThreshold(0).due("collect(2)", 1);
        run.done("deliver(0)").none("entry(1)").none("owner(1)").due("redo(2)", 3).due("messages()", 0);
    }

    /* Promise 9 */

    private static void roundWithNothing() {
        Run run = new Run("9: no entries");
        run.due("round()", 0).due("threshold()", 0).due("make(0, 0, 0)", 1).due("round()", 0).due("threshold()", 0);
    }

    private static void roundTakesLesserStampsAlone() {
        Run run = new Run("9: stamps that are THRESHOLD, and 1 less");
        run.due("make(2, 0, 1)", 1).due("make(0, 0, 1)", 2).due("collect(2)", 0).done("deliver(0)", "drop(0, 0)");
        run.due("collect(0)", 0).due("collect(1)", 0).due("entry(1)", 3).due("entry(2)", 2).due("round()", 1);
        run.due("threshold()", 3).due("entry(1)", 3).none("entry(2)").due("owner(2)", 1).due("objects(1)", 2);
        run.due("round()", 0).due("collect(1)", 1).none("owner(2)");
    }

    private static void roundTakesAllEntries() {
        Run run = withManyExits("9: 24 entries taken away");
        run.due("round()", 0).due("threshold()", 53);
    }

    private static void roundWithTheSameRedo() {
        Run run = new Run("9: the least redo is THRESHOLD");
        run.due("collect(0)", 0).due("collect(1)", 0).due("collect(2)", 0).due("round()", 0).due("threshold()", 1);
        run.due("round()", 0).due("threshold()", 1);
    }

    private static void roundWithALesserRedo() {
        Run run = new Run("9: the least redo is less than THRESHOLD");
        run.due("make(0, 0, 1)", 1).due("make(0, 1, 1)", 2).setThreshold(2).due("redo(1)", 0);
        run.due("round()", 1).due("threshold()", 2).none("entry(1)").due("entry(2)", 2);
    }

    private static void roundTakesTheLeastOfThree() {
        for (int least = 0; least < 3; least++) {
            Run run = new Run("9: the least redo is that of node " + least);
            for (int step = 0; step < 3; step++) {
                run.due(call("collect", (least + step) % 3), 0);
            }
            run.due("round()", 0).due("threshold()", 1).due(call("collect", least), 0).due("round()", 0);
            run.due("threshold()", 2);
        }
    }

    /* Promises 10 to 19 */

    private static void rootNoSuchRoot() {
        for (Run run : anew("10: no such root")) {
            for (int bad : NOT_OF_THREE) {
                run.none(call("root", bad, 0)).none(call("root", bad, bad));
                for (int n = 0; n < 3; n++) {
                    run.none(call("root", n, bad));
                }
            }
        }
    }

    private static void rootEmptyOrDead() {
        new Run("10: empty, and dead").dead().due("root(0, 0)", 1).due("root(0, 1)", 2).due("root(0, 2)", 0)
                .due("root(1, 0)", 0).done("drop(0, 1)").due("root(0, 1)", 0);
    }

    private static void fieldNoSuchField() {
        Run run = new Run("11: no such field").busy();
        for (int bad : NOT_OF_TWO) {
            for (int object = 0; object <= 12; object++) {
                run.none(call("field", object, bad));
            }
        }
    }

    /** Not yet made, freed, and no number at all. */
    private static void objectsThatAreNotThere() {
        Run run = new Run("11, 12, 14: the object is not there");
        run.due("make(0, 0, 1)", 1).due("make(0, 1, 0)", 2).done("store(0, 1, 0, 0)", "drop(0, 1)");
        run.due("owner(2)", 0).due("field(2, 0)", 1).due("collect(0)", 1);
        for (int object : new int[] {2, 3, 0, -1, -2, 24, 25, 512, 513, LEAST, MOST}) {
            run.none(call("field", object, 0)).none(call("field", object, 1)).none(call("owner", object));
            run.none(call("entry", object)).none(call("exit", 0, object)).none(call("field", object, 2));
        }
        run.due("owner(1)", 1).due("entry(1)", 1).due("exit(0, 1)", 5).due("field(1, 1)", 0);
    }

    private static void fieldEmptyOrDead() {
        new Run("11: empty, and dead").dead().due("field(1, 0)", 0).due("field(1, 1)", 2).none("field(2, 0)")
                .done("store(0, 0, 1, 2)").due("field(1, 1)", 0);
    }

    /** A dead reference in a field needs no setThreshold: what is lost across nodes is not freed all at once. */
    private static void fieldDeadInALostObject() {
        Run run = withManyExits("11: dead in an object that is lost");
        for (int k = 0; k < 8; k++) {
            run.due(call("field", 3 * k + 1, 0), 3 * k + 2).due(call("field", 3 * k + 1, 1), 3 * k + 3);
            run.none(call("owner", 3 * k + 2)).due(call("exit", 0, 3 * k + 2), 6 * k + 6);
        }
    }

    private static void objectsNoSuchNode() {
        for (Run run : anew("13: no such node")) {
            for (int bad : NOT_OF_THREE) {
                run.none(call("objects", bad));
            }
        }
    }

    private static void entryNone() {
        Run run = new Run("14: it has none");
        run.due("make(0, 0, 0)", 1).none("entry(1)").done("move(0, 0, 1, 0)").due("entry(1)", 2);
        run.done("drop(1, 0)").due("collect(0)", 0).due("collect(1)", 0).due("collect(2)", 0).due("round()", 1);
        run.none("entry(1)").due("owner(1)", 0).done("move(0, 0, 1, 0)").due("entry(1)", 7);
    }

    private static void exitNoSuchNode() {
        for (Run run : anew("15: no such node")) {
            for (int bad : NOT_OF_THREE) {
                for (int object = 0; object < 5; object++) {
                    run.none(call("exit", bad, object));
                }
            }
        }
    }

    private static void exitNone() {
        Run run = new Run("15: no such exit").due("make(0, 0, 1)", 1).due("make(2, 0, 1)", 2);
        run.none("exit(1, 1)").none("exit(2, 1)").none("exit(0, 2)").none("exit(1, 2)").none("exit(0, 3)");
        run.due("exit(0, 1)", 1).due("exit(2, 2)", 2);
    }

    private static void exitForAFreedObject() {
        new Run("15: whether the object is there or not").dead().due("exit(0, 2)", 2).none("owner(2)")
                .due("collect(0)", 0).due("exit(0, 2)", 5).none("exit(1, 2)").none("exit(2, 2)");
    }

    private static void messagesNoneAndForty() {
        Run run = new Run("16: none, and 40").due("messages()", 0).sent(40).due("messages()", 40);
        for (int left = 39; left >= 0; left--) {
            run.done("deliver(0)").due("messages()", left);
        }
    }

    private static void messageNoSuchMessage() {
        for (Run run : anew("17: no such message")) {
            for (int bad : new int[] {-1, 2, 3, 39, 40, 41, LEAST, MOST, 1073741824}) {
                for (int what = -1; what <= 4; what++) {
                    run.none(call("message", bad, what));
                }
            }
        }
        Run run = new Run("17: 40 messages").sent(40);
        int[] last = {1, 1, 41, 40};
        for (int what = 0; what < 4; what++) {
            run.due(call("message", 39, what), last[what]).none(call("message", 40, what));
        }
        run.done("deliver(0)").none("message(39, 0)").due("message(38, 2)", 41);
    }

    private static void messageNoSuchPart() {
        for (Run run : anew("17: what is none of 0, 1, 2, 3")) {
            for (int bad : new int[] {-1, 4, 5, -4, LEAST, MOST}) {
                run.none(call("message", 0, bad)).none(call("message", 1, bad));
            }
        }
    }

    private static void redoNoSuchNode() {
        for (Run run : anew("18: no such node")) {
            for (int bad : NOT_OF_THREE) {
                run.none(call("redo", bad));
            }
        }
    }

    private static void redoIsTheLeastOfThree() {
        Run run = new Run("18: the least of LAST, LOW and w");
        run.due("make(0, 0, 1)", 1).due("redo(1)", 0).due("make(1, 0, 2)", 2).due("make(1, 1, 2)", 3);
        run.due("collect(1)", 0).due("redo(1)", 2).done("deliver(0)").due("redo(1)", 3).done("move(0, 0, 1, 2)");
        run.due("redo(1)", 1).done("deliver(0)").due("redo(1)", 1).due("collect(1)", 0).due("redo(1)", 4);
        run.done("deliver(0)", "deliver(0)").due("redo(1)", 6).due("redo(0)", 0).due("redo(2)", 0);
    }

    private static void thresholdAtFirstAndAfterRoundsAlone() {
        Run run = new Run("19: 0 at first, and rounds alone change it").due("threshold()", 0);
        run.due("collect(0)", 0).due("collect(1)", 0).due("collect(2)", 0).due("threshold()", 0).due("round()", 0);
        run.due("threshold()", 1).due("collect(0)", 0).due("threshold()", 1).due("round()", 0).due("threshold()", 2);
    }

    private static void terms() {
        busyHasSomethingOfEverything();
        numbersCountWhatIsMade();
        clockBeginsAtNought();
        everyChangingCallTakesTheClockOn();
        deliverAndRoundLeaveTheClock();
        questionsChangeNothing();
        everyRootIsThereAndItsOwn();
        arrivingAtTheOwnerMakesNoExit();
        anExitThatIsThereGetsNow();
        aNewEntryLowersToTheThreshold();
        aNewEntryLeavesALowThatIsNotGreater();
        raisingLowersToTheOldStamp();
        raisingLeavesALowThatIsNotGreater();
        within512Calls();
    }

    private static void makes() {
        makeNoSuchNode();
        makeNoSuchRoot();
        makeNoSuchOwner();
        makeOwnerHasEight();
        makeRoomAfterCollecting();
        makeWhereAnObjectWasFreed();
        makeAllNodesFull();
        makeOwnDoesNotArrive();
        makeElsewhereArrives();
    }

    private static void loads() {
        loadNoSuchNode();
        loadNoSuchRoot();
        loadNoSuchRootTo();
        loadNoSuchField();
        loadRootEmpty();
        loadRootDead();
        loadNothing();
        loadOwnFieldDoesNotArrive();
        loadFieldOfAnotherNodeArrives();
        loadIntoRootR();
        loadOfADeadReference();
    }

    private static void stores() {
        storeNoSuchNode();
        storeNoSuchRoot();
        storeNoSuchRootFrom();
        storeNoSuchField();
        storeRootEmpty();
        storeRootDead();
        storeNothing();
        storeOnOwnNodeDoesNotArrive();
        storeOnAnotherNodeArrives();
        storeOfADeadReference();
    }

    private static void movesAndDrops() {
        moveNoSuchNode();
        moveNoSuchRoot();
        moveNoSuchRootQ();
        moveSameNode();
        moveNothing();
        moveBetweenAllNodes();
        moveOfADeadReference();
        dropNoSuchNode();
        dropNoSuchRoot();
        dropOfAnEmptyRoot();
        dropOfADeadReference();
    }

    private static void collects() {
        collectNoSuchNode();
        collectFortyTogether();
        collectMoreThanFortyTogether();
        collectManyMoreThanForty();
        collectCountsAllMessages();
        collectWithManyExits();
        collectWithTooManyExits();
        collectNothingToFree();
        collectFreesAllEight();
        collectFreesOnNodeNAlone();
        collectKeepsWhatARootAloneReaches();
        collectKeepsWhatAnEntryAloneReaches();
        rootsOfOtherNodesDoNotReach();
        exitsReachedWithNoStampAreTakenAway();
        exitsOfUnreachedObjectsAreTakenAway();
        exitReachedWithAGreaterStamp();
        exitReachedWithTheSameStamp();
        exitReachedWithALesserStamp();
        messagesByAscendingNumbers();
        deadReferencesReachTheirExits();
        collectSetsLastAndLow();
    }

    private static void deliversAndRounds() {
        deliverNoSuchMessage();
        deliverFirstAndLastOfForty();
        deliverInTheMiddle();
        deliverAGreaterStamp();
        deliverTheSameStamp();
        deliverALesserStamp();
        deliverWithoutAnEntry();
        deliverWithoutAnObject();
        roundWithNothing();
        roundTakesLesserStampsAlone();
        roundTakesAllEntries();
        roundWithTheSameRedo();
        roundWithALesserRedo();
        roundTakesTheLeastOfThree();
    }

    private static void questions() {
        rootNoSuchRoot();
        rootEmptyOrDead();
        fieldNoSuchField();
        objectsThatAreNotThere();
        fieldEmptyOrDead();
        fieldDeadInALostObject();
        objectsNoSuchNode();
        entryNone();
        exitNoSuchNode();
        exitNone();
        exitForAFreedObject();
        messagesNoneAndForty();
        messageNoSuchMessage();
        messageNoSuchPart();
        redoNoSuchNode();
        redoIsTheLeastOfThree();
        thresholdAtFirstAndAfterRoundsAlone();
    }

    public static void main(String[] args) {
        terms();
        newObject();
        objectsOfTheClassAreApart();
        makes();
        loads();
        stores();
        movesAndDrops();
        collects();
        deliversAndRounds();
        questions();
        System.out.println(wrong == 0 ? "all answers are as due" : wrong + " answers are not as due");
        if (wrong != 0) {
            System.exit(1);
        }
    }
}
