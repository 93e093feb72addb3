import java.util.List;
import java.util.Set;
import java.util.TreeSet;
import java.util.function.Supplier;
import java.util.function.ToIntFunction;

/** Each sentence of the document that names a boundary case, by a test of its own. */
public final class BoundaryTest {
    // The document's numbers, not the class's, so that a wrong constant is seen.
    private static final int OK = 0;
    private static final int WAITS = 1;
    private static final int BAD = -1;
    private static final int RING = -2;
    private static final int NONE = -1;
    private static final int NOT_GIVEN = -2;
    private static final int TRUE = 1;
    private static final int FALSE = 0;

    private static final int MIN = Integer.MIN_VALUE;
    private static final int MAX = Integer.MAX_VALUE;
    // Just outside, the ends of int, and numbers that a shift, a mask or a
    // narrower type would take for a number inside.
    private static final int[] NOT_THREADS = {-1, 6, MIN, MAX, -2, 7, MIN + 5, MAX - 1,
        8, 13, 32, 37, -32, -27, 256, 261, -256, 65536, 65541, -65536};
    private static final int[] NOT_LOCKS = {-1, 5, MIN, MAX, -2, 6, MIN + 4, MAX - 1,
        8, 12, 32, 36, -32, -28, 256, 260, -256, 65536, 65540, -65536};
    private static final int[] NOT_BASES = {-1, 10, MIN, MAX, -2, 11, MIN + 9, MAX - 1,
        16, 25, 32, 41, -32, -23, 256, 265, -256, 65536, 65545, -65536};

    private static final Set<String> BROKEN = new TreeSet<>();
    private static final int SHOWN = 60;
    private static int wrong = 0;
    private static int compared = 0;
    private static int sentences = 0;
    private static String sentence = "";

    /** A way to a state that is known in advance, told again for each object that is to be in it. */
    private record Scene(String name, Supplier<PriorityLocks> make, int[] holder, int[] waitsFor, int[] base) {
        boolean waits(int t) {
            return waitsFor[t] != NONE;
        }

        int waiters(int l) {
            int count = 0;
            for (int awaited : waitsFor) {
                count += awaited == l ? 1 : 0;
            }
            return count;
        }
    }

    private static final List<Scene> SCENES = List.of(
        new Scene("new", PriorityLocks::new,
            new int[] {-1, -1, -1, -1, -1}, new int[] {-1, -1, -1, -1, -1, -1}, new int[6]),
        new Scene("mixed", BoundaryTest::mixed,
            new int[] {0, 0, 1, -1, -1}, new int[] {-1, 0, 2, 0, -1, -1}, new int[] {1, 2, 6, 4, 3, 0}),
        new Scene("line", BoundaryTest::line,
            new int[] {0, 1, 2, 3, 4}, new int[] {-1, 0, 1, 2, 3, 4}, new int[6]),
        new Scene("line down", BoundaryTest::lineDown,
            new int[] {5, 4, 3, 2, 1}, new int[] {4, 3, 2, 1, 0, -1}, new int[] {9, 0, 0, 0, 0, 0}),
        new Scene("crowd", BoundaryTest::crowd,
            new int[] {5, 5, 5, 5, 5}, new int[] {4, 4, 4, 4, 4, -1}, new int[] {3, 3, 3, 3, 3, 3}));

    private static PriorityLocks mixed() {
        PriorityLocks x = new PriorityLocks();
        x.setBase(0, 1);
        x.setBase(1, 2);
        x.setBase(2, 6);
        x.setBase(3, 4);
        x.setBase(4, 3);
        x.take(0, 0);
        x.take(0, 1);
        x.take(1, 2);
        x.take(3, 0);
        x.take(1, 0);
        x.take(2, 2);
        return x;
    }

    /** The longest line: all locks are held, and every thread but 0 waits for the one before it. */
    private static PriorityLocks line() {
        PriorityLocks x = new PriorityLocks();
        for (int t = 0; t < 5; t++) {
            x.take(t, t);
        }
        for (int t = 1; t < 6; t++) {
            x.take(t, t - 1);
        }
        return x;
    }

    /** The longest line the other way, with the greatest urgency at its far end. */
    private static PriorityLocks lineDown() {
        PriorityLocks x = new PriorityLocks();
        x.setBase(0, 9);
        for (int t = 5; t > 0; t--) {
            x.take(t, 5 - t);
        }
        for (int t = 0; t < 5; t++) {
            x.take(t, 4 - t);
        }
        return x;
    }

    /** One thread holds all locks, and all others wait for the last one, equally urgent. */
    private static PriorityLocks crowd() {
        PriorityLocks x = new PriorityLocks();
        for (int t = 0; t < 6; t++) {
            x.setBase(t, 3);
        }
        for (int l = 0; l < 5; l++) {
            x.take(5, l);
        }
        x.take(3, 4);
        x.take(4, 4);
        x.take(0, 4);
        x.take(2, 4);
        x.take(1, 4);
        return x;
    }

    private static void says(String words) {
        closeSentence();
        sentence = words;
        sentences++;
    }

    // A sentence whose test compares nothing would hold whatever the class does.
    private static void closeSentence() {
        if (sentences > 0 && compared == 0) {
            tell("nothing was compared");
        }
        compared = 0;
    }

    private static void tell(String what) {
        wrong++;
        BROKEN.add(sentence);
        if (wrong <= SHOWN) {
            System.out.println(sentence + "\n    " + what);
        }
    }

    private static void due(String call, int got, int want) {
        compared++;
        if (got != want) {
            tell(call + " answered " + got + ", due is " + want);
        }
    }

    private static void due(String call, boolean got, boolean want) {
        due(call, got ? TRUE : FALSE, want ? TRUE : FALSE);
    }

    private static void dueAll(String call, int[] want, ToIntFunction<Integer> asked) {
        for (int n = 0; n < want.length; n++) {
            due(call + "(" + n + ")", asked.applyAsInt(n), want[n]);
        }
    }

    private static String look(PriorityLocks x) {
        StringBuilder seen = new StringBuilder();
        for (int t = 0; t < 6; t++) {
            seen.append("t" + t + " " + x.base(t) + " " + x.urgency(t) + " " + x.waitsFor(t)
                + " " + x.held(t) + " " + x.waitingOn(t) + "; ");
        }
        for (int l = 0; l < 5; l++) {
            seen.append("l" + l + " " + x.holder(l) + " " + x.waiting(l) + " " + x.nextFor(l) + "; ");
        }
        return seen + "running " + x.running() + " lifted " + x.lifted();
    }

    /** Gives all locks back, one after the other: this shows the order of the waits, which no question does. */
    private static String drain(PriorityLocks x) {
        StringBuilder seen = new StringBuilder();
        for (int round = 0; round < 6; round++) {
            for (int l = 0; l < 5; l++) {
                seen.append(x.give(x.holder(l), l) + " ");
            }
        }
        return seen.toString();
    }

    private static void dueAlike(String after, PriorityLocks x, PriorityLocks twin) {
        compared++;
        String seen = look(x) + " then " + drain(x);
        String want = look(twin) + " then " + drain(twin);
        if (!seen.equals(want)) {
            tell(after + " changed the state to\n    " + seen + "\n    it was\n    " + want);
        }
    }

    /** The call is answered as due and changes nothing, in this scene. */
    private static void refused(Scene scene, String call, ToIntFunction<PriorityLocks> made, int want) {
        PriorityLocks x = scene.make().get();
        String where = call + " in '" + scene.name() + "'";
        due(where, made.applyAsInt(x), want);
        dueAlike(where, x, scene.make().get());
    }

    private static void refusedTake(Scene scene, int t, int l, int want) {
        refused(scene, "take(" + t + ", " + l + ")", x -> x.take(t, l), want);
    }

    private static void refusedGive(Scene scene, int t, int l) {
        refused(scene, "give(" + t + ", " + l + ")", x -> x.give(t, l), NOT_GIVEN);
    }

    private static void refusedGiveUp(Scene scene, int t) {
        refused(scene, "giveUp(" + t + ")", x -> x.giveUp(t) ? TRUE : FALSE, FALSE);
    }

    private static void refusedSetBase(Scene scene, int t, int u) {
        refused(scene, "setBase(" + t + ", " + u + ")", x -> x.setBase(t, u) ? TRUE : FALSE, FALSE);
    }

    // ---- What it is, and the public face

    private static void theLastOf512Calls() {
        says("What it is: An object is used for at most 512 calls");
        // As many waits as 512 calls have room for: their numbers are the greatest that can arise.
        PriorityLocks x = new PriorityLocks();
        x.take(0, 0);
        for (int t = 1; t < 5; t++) {
            x.take(t, 0);
        }
        for (int again = 0; again < 252; again++) {
            x.take(5, 0);
            x.giveUp(5);
        }
        due("call 510, take(5, 0)", x.take(5, 0), WAITS);
        due("call 511, give(0, 0)", x.give(0, 0), 1);
        due("call 512, give(1, 0)", x.give(1, 0), 2);

        PriorityLocks refusing = new PriorityLocks();
        for (int call = 1; call < 512; call++) {
            due("call " + call + ", give of a free lock", refusing.give(0, 0), NOT_GIVEN);
        }
        due("call 512, take(0, 0)", refusing.take(0, 0), OK);

        PriorityLocks taking = new PriorityLocks();
        for (int call = 1; call < 511; call += 2) {
            due("call " + call + ", take(5, 4)", taking.take(5, 4), OK);
            due("call " + (call + 1) + ", give(5, 4)", taking.give(5, 4), NONE);
        }
        due("call 511, take(0, 4)", taking.take(0, 4), OK);
        due("call 512, holder(4)", taking.holder(4), 0);
    }

    private static void theConstants() {
        says("The public face: OK = 0, WAITS = 1, BAD = -1, RING = -2, NONE = -1");
        due("OK", PriorityLocks.OK, OK);
        due("WAITS", PriorityLocks.WAITS, WAITS);
        due("BAD", PriorityLocks.BAD, BAD);
        due("RING", PriorityLocks.RING, RING);
        due("NONE", PriorityLocks.NONE, NONE);
    }

    // ---- Terms

    private static void termThreads() {
        says("Terms: There are threads 0 .. 5");
        for (int t : new int[] {0, 5}) {
            PriorityLocks x = new PriorityLocks();
            due("setBase(" + t + ", 7)", x.setBase(t, 7), true);
            due("base(" + t + ")", x.base(t), 7);
            due("urgency(" + t + ")", x.urgency(t), 7);
            due("running()", x.running(), t);
            x.take(2, 1);
            due("take(" + t + ", 1)", x.take(t, 1), WAITS);
            due("waitsFor(" + t + ")", x.waitsFor(t), 1);
            due("waitingOn(2)", x.waitingOn(2), 1 << t);
            due("nextFor(1)", x.nextFor(1), t);
            due("give(2, 1)", x.give(2, 1), t);
            due("held(" + t + ")", x.held(t), 2);
            due("take(2, 1)", x.take(2, 1), WAITS);
            x.setBase(2, 8);
            due("lifted()", x.lifted(), 1 << t);
            due("give(" + t + ", 1)", x.give(t, 1), 2);
        }
        for (int t : new int[] {-1, 6}) {
            PriorityLocks x = new PriorityLocks();
            due("take(" + t + ", 1)", x.take(t, 1), BAD);
            due("give(" + t + ", 1)", x.give(t, 1), NOT_GIVEN);
            due("giveUp(" + t + ")", x.giveUp(t), false);
            due("setBase(" + t + ", 7)", x.setBase(t, 7), false);
            dueAlike("a thread " + t, x, new PriorityLocks());
        }
    }

    private static void termBases() {
        says("Terms: each with a BASE urgency (0 .. 9, 0 at first)");
        PriorityLocks x = new PriorityLocks();
        for (int t = 0; t < 6; t++) {
            due("base(" + t + ") at first", x.base(t), 0);
            for (int u : new int[] {9, 0, 9}) {
                due("setBase(" + t + ", " + u + ")", x.setBase(t, u), true);
                due("base(" + t + ")", x.base(t), u);
            }
            due("setBase(" + t + ", -1)", x.setBase(t, -1), false);
            due("setBase(" + t + ", 10)", x.setBase(t, 10), false);
            due("base(" + t + ") is kept", x.base(t), 9);
        }
    }

    private static void termLocks() {
        says("Terms: and locks 0 .. 4, all free at first");
        for (int l : new int[] {0, 4}) {
            PriorityLocks x = new PriorityLocks();
            due("holder(" + l + ") at first", x.holder(l), NONE);
            due("take(2, " + l + ")", x.take(2, l), OK);
            due("holder(" + l + ")", x.holder(l), 2);
            due("held(2)", x.held(2), 1 << l);
            due("take(3, " + l + ")", x.take(3, l), WAITS);
            due("waitsFor(3)", x.waitsFor(3), l);
            due("waiting(" + l + ")", x.waiting(l), 1);
            due("nextFor(" + l + ")", x.nextFor(l), 3);
            due("give(2, " + l + ")", x.give(2, l), 3);
            due("give(3, " + l + ")", x.give(3, l), NONE);
        }
        for (int l : new int[] {-1, 5}) {
            PriorityLocks x = new PriorityLocks();
            due("take(2, " + l + ")", x.take(2, l), BAD);
            due("give(2, " + l + ")", x.give(2, l), NOT_GIVEN);
            dueAlike("a lock " + l, x, new PriorityLocks());
        }
    }

    private static void termWaitsUntilItGetsIt() {
        says("Terms: A thread that asks for a lock that is held WAITS for it, until it gets it");
        PriorityLocks x = crowd();
        int from = 5;
        int left = 5;
        for (int t : new int[] {3, 4, 0, 2, 1}) {
            due("waitsFor(" + t + ") before", x.waitsFor(t), 4);
            due("waiting(4) before", x.waiting(4), left);
            due("give(" + from + ", 4)", x.give(from, 4), t);
            left--;
            due("waitsFor(" + t + ") then", x.waitsFor(t), NONE);
            due("holder(4) then", x.holder(4), t);
            due("waiting(4) then", x.waiting(4), left);
            from = t;
        }
    }

    private static void termOneWaitAtMost() {
        says("Terms: a thread waits for at most one lock, and does nothing while it waits");
        for (Scene scene : SCENES) {
            for (int t = 0; t < 6; t++) {
                for (int l = 0; l < 5 && scene.waits(t); l++) {
                    refusedTake(scene, t, l, BAD);
                    refusedGive(scene, t, l);
                }
            }
        }
    }

    private static void termUrgencyWithoutWaiters() {
        says("Terms: The URGENCY of a thread is the greatest of its base urgency (none waits)");
        for (int u : new int[] {0, 9}) {
            PriorityLocks x = new PriorityLocks();
            x.setBase(5, u);
            due("holds nothing", x.urgency(5), u);
            for (int l = 0; l < 5; l++) {
                x.take(5, l);
            }
            due("holds all, none waits", x.urgency(5), u);
        }
        PriorityLocks y = new PriorityLocks();
        y.setBase(0, 9);
        y.take(0, 0);
        y.take(1, 0);
        due("who waits is lent nothing by the holder", y.urgency(1), 0);
        due("who has nothing to do with it neither", y.urgency(2), 0);
    }

    private static void termUrgencyAtTheEdge() {
        says("Terms: The URGENCY is the greatest of its base urgency and of the urgencies of all threads that wait");
        for (int own = 0; own <= 9; own++) {
            for (int other = 0; other <= 9; other++) {
                PriorityLocks x = new PriorityLocks();
                x.setBase(5, own);
                x.setBase(0, other);
                x.take(5, 0);
                x.take(0, 0);
                due("own " + own + ", lent " + other, x.urgency(5), own > other ? own : other);
                due("who lends keeps its own", x.urgency(0), other);
            }
        }
    }

    private static void termUrgencyOverAllLocks() {
        says("Terms: The URGENCY is the greatest over all threads that wait for locks that it holds");
        for (int most = 0; most < 5; most++) {
            PriorityLocks each = new PriorityLocks();
            PriorityLocks same = new PriorityLocks();
            for (int l = 0; l < 5; l++) {
                each.take(5, l);
                same.take(5, l);
            }
            for (int t = 0; t < 5; t++) {
                each.setBase(t, t == most ? 9 : t);
                same.setBase(t, t == most ? 9 : t);
                each.take(t, t);
                same.take(t, 4);
            }
            due("greatest waits for lock " + most, each.urgency(5), 9);
            due("greatest is thread " + most + " of one lock", same.urgency(5), 9);
            due("giveUp(" + most + ")", each.giveUp(most), true);
            due("greatest of those left", each.urgency(5), most == 4 ? 3 : 4);
        }
    }

    private static void termUrgencyAlongTheLongestLine() {
        says("Terms: The URGENCY is lent on along the longest line");
        PriorityLocks down = lineDown();
        for (int t = 0; t < 6; t++) {
            due("urgency(" + t + ")", down.urgency(t), 9);
        }
        PriorityLocks up = line();
        up.setBase(3, 4);
        up.setBase(5, 9);
        dueAll("urgency", new int[] {9, 9, 9, 9, 9, 9}, up::urgency);
        up.giveUp(5);
        dueAll("after giveUp(5), urgency", new int[] {4, 4, 4, 4, 0, 9}, up::urgency);
        up.setBase(3, 0);
        dueAll("after setBase(3, 0), urgency", new int[] {0, 0, 0, 0, 0, 9}, up::urgency);
    }

    private static void termNoRing() {
        says("Terms: Threads never wait for each other in a ring: what would lead to that is refused");
        for (int length = 2; length <= 5; length++) {
            PriorityLocks x = new PriorityLocks();
            PriorityLocks twin = new PriorityLocks();
            for (PriorityLocks each : List.of(x, twin)) {
                for (int t = 0; t < length; t++) {
                    each.take(t, t);
                }
                for (int t = 1; t < length; t++) {
                    each.take(t, t - 1);
                }
            }
            due("closing a ring of " + length, x.take(0, length - 1), RING);
            dueAlike("closing a ring of " + length, x, twin);
        }
    }

    private static void termFreeLockWithoutWaiters() {
        says("Terms: A lock that becomes free goes at once to the thread that waits for it (none, one)");
        for (int l : new int[] {0, 4}) {
            PriorityLocks x = new PriorityLocks();
            x.take(3, l);
            x.take(3, 2);
            x.take(1, 2);
            due("none waits for it: give", x.give(3, l), NONE);
            due("who waits for another lock stays", x.waitsFor(1), 2);
            x.take(3, l);
            x.take(0, l);
            due("one waits for it: give", x.give(3, l), 0);
            due("at once: holder", x.holder(l), 0);
            due("at once: waitsFor(0)", x.waitsFor(0), NONE);
            due("at once: held(0)", x.held(0), 1 << l);
            due("at once: waiting", x.waiting(l), 0);
        }
    }

    private static void termGreatestUrgencyFirst() {
        says("Terms: goes to the thread that waits for it with the greatest urgency");
        for (int most = 0; most < 5; most++) {
            PriorityLocks x = crowd();
            x.setBase(most, 4);
            due("one above the rest, nextFor(4)", x.nextFor(4), most);
            due("one above the rest, give(5, 4)", x.give(5, 4), most);
        }
        for (int most = 0; most < 5; most++) {
            PriorityLocks x = crowd();
            for (int t = 0; t < 5; t++) {
                x.setBase(t, t == most ? 9 : 8);
            }
            due("9 before 8, give(5, 4)", x.give(5, 4), most);
        }
    }

    private static void termUrgenciesRightBefore() {
        says("Terms: (by the urgencies right before the lock becomes free)");
        PriorityLocks x = new PriorityLocks();
        x.take(0, 0);
        x.take(2, 1);
        x.setBase(1, 5);
        x.take(1, 0);
        x.take(2, 0);
        due("own urgency, nextFor(0)", x.nextFor(0), 1);
        x.setBase(3, 6);
        x.take(3, 1);
        due("urgency that is lent later, nextFor(0)", x.nextFor(0), 2);
        x.giveUp(3);
        due("urgency that is lent no more, nextFor(0)", x.nextFor(0), 1);
        x.setBase(2, 6);
        due("base that is raised later, nextFor(0)", x.nextFor(0), 2);
        x.setBase(2, 4);
        due("base that is lowered again, give(0, 0)", x.give(0, 0), 1);

        due("own before lent urgency that is equal", firstOfOwnAndLent(1, 2), 1);
        due("lent before own urgency that is equal", firstOfOwnAndLent(2, 1), 2);
    }

    /** Who gets lock 0, when 1 has urgency 5 of its own and 2 has it from 3, and they ask in this order. */
    private static int firstOfOwnAndLent(int first, int second) {
        PriorityLocks x = new PriorityLocks();
        x.setBase(1, 5);
        x.setBase(3, 5);
        x.take(0, 0);
        x.take(2, 1);
        x.take(first, 0);
        x.take(second, 0);
        x.take(3, 1);
        return x.give(0, 0);
    }

    private static void termLongestWaitFirst() {
        says("Terms: of several with that to the one that has waited for it longest");
        for (int u : new int[] {0, 9}) {
            PriorityLocks x = crowd();
            for (int t = 0; t < 6; t++) {
                x.setBase(t, u);
            }
            int from = 5;
            for (int t : new int[] {3, 4, 0, 2, 1}) {
                due("all have " + u + ", give", x.give(from, 4), t);
                from = t;
            }
        }
        PriorityLocks back = crowd();
        back.giveUp(3);
        back.take(3, 4);
        due("who gives up and asks again has not waited longest", back.give(5, 4), 4);

        PriorityLocks elsewhere = new PriorityLocks();
        elsewhere.take(0, 0);
        elsewhere.take(0, 1);
        elsewhere.take(1, 1);
        elsewhere.take(2, 0);
        elsewhere.giveUp(1);
        elsewhere.take(1, 0);
        due("a wait for another lock does not count", elsewhere.give(0, 0), 2);

        PriorityLocks onward = new PriorityLocks();
        onward.take(0, 0);
        onward.take(5, 0);
        onward.take(1, 0);
        onward.give(0, 0);
        onward.take(0, 0);
        due("a new holder is changed, the waits go on", onward.give(5, 0), 1);

        PriorityLocks some = crowd();
        some.setBase(3, 2);
        some.setBase(4, 2);
        some.setBase(2, 7);
        some.setBase(1, 7);
        due("longest among the most urgent alone", some.give(5, 4), 2);
    }

    private static void termRunning() {
        says("Terms: The RUNNING thread is the runnable one with the greatest urgency, of several the least number");
        for (int u : new int[] {0, 9}) {
            PriorityLocks x = new PriorityLocks();
            for (int t = 0; t < 6; t++) {
                x.setBase(t, u);
            }
            x.take(5, 0);
            due("all are equal with " + u, x.running(), 0);
            for (int t = 0; t < 5; t++) {
                x.take(t, 0);
                due("those up to " + t + " wait", x.running(), t + 1);
            }
        }
        for (int t = 0; t < 6; t++) {
            PriorityLocks x = new PriorityLocks();
            x.setBase(t, 1);
            due("1 before 0", x.running(), t);
        }
        PriorityLocks lent = lineDown();
        due("least urgent by its base, most by what is lent", lent.running(), 5);
        lent.giveUp(2);
        due("of two with equal urgency", lent.running(), 2);
    }

    // ---- Promise 1

    private static void promise1Bases() {
        says("Promise 1: All base urgencies 0");
        PriorityLocks x = new PriorityLocks();
        dueAll("base", new int[6], x::base);
        dueAll("urgency", new int[6], x::urgency);
        due("lifted()", x.lifted(), 0);
    }

    private static void promise1Locks() {
        says("Promise 1: all locks free");
        PriorityLocks x = new PriorityLocks();
        dueAll("holder", new int[] {-1, -1, -1, -1, -1}, x::holder);
        dueAll("waiting", new int[5], x::waiting);
        dueAll("nextFor", new int[] {-1, -1, -1, -1, -1}, x::nextFor);
        dueAll("held", new int[6], x::held);
        dueAll("waitsFor", new int[] {-1, -1, -1, -1, -1, -1}, x::waitsFor);
        dueAll("waitingOn", new int[6], x::waitingOn);
        for (int t = 0; t < 6; t++) {
            for (int l = 0; l < 5; l++) {
                due("take(" + t + ", " + l + ")", new PriorityLocks().take(t, l), OK);
            }
        }
    }

    private static void promise1Anew() {
        says("Promise 1: a new object is new, whatever was done with others");
        PriorityLocks before = new PriorityLocks();
        for (Scene scene : SCENES) {
            scene.make().get();
        }
        for (PriorityLocks x : List.of(before, new PriorityLocks())) {
            dueAll("base", new int[6], x::base);
            dueAll("holder", new int[] {-1, -1, -1, -1, -1}, x::holder);
            dueAll("waitsFor", new int[] {-1, -1, -1, -1, -1, -1}, x::waitsFor);
        }
    }

    // ---- Promise 2

    private static void takeByNoThread() {
        says("Promise 2: BAD when t is not 0 .. 5");
        for (Scene scene : SCENES) {
            for (int t : NOT_THREADS) {
                for (int l = 0; l < 5; l++) {
                    refusedTake(scene, t, l, BAD);
                }
            }
        }
    }

    private static void takeOfNoLock() {
        says("Promise 2: BAD when l is not 0 .. 4");
        for (Scene scene : SCENES) {
            for (int l : NOT_LOCKS) {
                for (int t = 0; t < 6; t++) {
                    refusedTake(scene, t, l, BAD);
                }
            }
        }
    }

    private static void takeByNoThreadOfNoLock() {
        says("Promise 2: BAD when both t and l are outside");
        for (int t : NOT_THREADS) {
            for (int l : NOT_LOCKS) {
                refusedTake(SCENES.get(1), t, l, BAD);
            }
        }
    }

    private static void takeByAWaiter() {
        says("Promise 2: BAD when t waits");
        for (Scene scene : SCENES) {
            for (int t = 0; t < 6; t++) {
                for (int l = 0; l < 5 && scene.waits(t); l++) {
                    refusedTake(scene, t, l, BAD);
                }
            }
        }
    }

    private static void takeOfWhatItHolds() {
        says("Promise 2: BAD when t holds l");
        for (Scene scene : SCENES) {
            for (int l = 0; l < 5; l++) {
                if (scene.holder()[l] != NONE) {
                    refusedTake(scene, scene.holder()[l], l, BAD);
                }
            }
        }
    }

    private static void takeOfAFreeLock() {
        says("Promise 2: OK when l was free: t holds it now");
        for (Scene scene : SCENES) {
            for (int t = 0; t < 6; t++) {
                for (int l = 0; l < 5; l++) {
                    if (scene.holder()[l] == NONE && !scene.waits(t)) {
                        PriorityLocks x = scene.make().get();
                        int before = x.held(t);
                        due("take(" + t + ", " + l + ")", x.take(t, l), OK);
                        due("holder(" + l + ")", x.holder(l), t);
                        due("held(" + t + ")", x.held(t), before | 1 << l);
                        due("waitsFor(" + t + ")", x.waitsFor(t), NONE);
                        due("waiting(" + l + ")", x.waiting(l), 0);
                        due("give(" + t + ", " + l + ")", x.give(t, l), NONE);
                        dueAlike("taken and given back", x, scene.make().get());
                    }
                }
            }
        }
    }

    private static void takeOfAllLocks() {
        says("Promise 2: OK when l was free (one thread holds them all, and none is left)");
        for (int t : new int[] {0, 5}) {
            PriorityLocks x = new PriorityLocks();
            for (int l = 4; l >= 0; l--) {
                due("take(" + t + ", " + l + ")", x.take(t, l), OK);
            }
            due("held(" + t + ")", x.held(t), 31);
            for (int l = 0; l < 5; l++) {
                int other = t == 0 ? l + 1 : l;
                due("take(" + t + ", " + l + ") again", x.take(t, l), BAD);
                due("take(" + other + ", " + l + ")", x.take(other, l), WAITS);
            }
        }
    }

    private static void takeThatWouldCloseARing() {
        says("Promise 2: RING, changing nothing, when the holder of l waits for a lock that t holds (directly)");
        for (int t = 0; t < 6; t++) {
            for (int s = 0; s < 6; s++) {
                for (int l = 0; l < 5 && s != t; l++) {
                    ringOfTwo(t, s, l, (l + 1) % 5);
                }
            }
        }
    }

    private static void ringOfTwo(int t, int s, int own, int others) {
        PriorityLocks x = new PriorityLocks();
        PriorityLocks twin = new PriorityLocks();
        for (PriorityLocks each : List.of(x, twin)) {
            each.take(t, own);
            each.take(s, others);
            each.take(s, own);
        }
        String call = "take(" + t + ", " + others + ")";
        due(call, x.take(t, others), RING);
        dueAlike(call, x, twin);
    }

    private static void takeThatWouldCloseALongRing() {
        says("Promise 2: RING, changing nothing, when the holder of l waits through others for a lock that t holds");
        for (int l = 1; l < 5; l++) {
            refusedTake(SCENES.get(2), 0, l, RING);
            refusedTake(SCENES.get(3), 5, l, RING);
        }
        refusedTake(SCENES.get(1), 0, 2, RING);
    }

    private static void takeByTheOnlyHolderOfMany() {
        says("Promise 2: RING when the holder waits for any of the locks that t holds");
        for (int awaited = 0; awaited < 4; awaited++) {
            PriorityLocks x = new PriorityLocks();
            for (int l = 0; l < 4; l++) {
                x.take(5, l);
            }
            x.take(0, 4);
            x.take(0, awaited);
            due("0 waits for lock " + awaited + ", take(5, 4)", x.take(5, 4), RING);
            due("not while 0 does not wait", x.giveUp(0) ? x.take(5, 4) : NONE, WAITS);
        }
    }

    private static void takeByTheFirstThatApplies() {
        says("Promise 2: Answers, by the first that applies");
        PriorityLocks x = new PriorityLocks();
        x.take(0, 0);
        x.take(1, 1);
        x.take(2, 2);
        x.take(0, 1);
        x.take(2, 0);
        due("t waits and l is free", x.take(0, 3), BAD);
        due("t waits and holds l", x.take(0, 0), BAD);
        due("t waits and its wait would close a ring", x.take(0, 2), BAD);
        due("t holds l, for which others wait", x.take(1, 1), BAD);
        due("l is free, and others wait for t", x.take(1, 3), OK);
        due("the holder waits for t", x.take(1, 0), RING);
        due("the holder waits for t through another", x.take(1, 2), RING);
        due("the holder waits, but not for t", x.take(3, 2), WAITS);
    }

    private static void takeThatWaits() {
        says("Promise 2: otherwise WAITS");
        PriorityLocks idle = new PriorityLocks();
        idle.take(0, 0);
        due("the holder waits for nothing", idle.take(5, 0), WAITS);
        due("waitsFor(5)", idle.waitsFor(5), 0);
        due("the holder keeps it", idle.holder(0), 0);

        PriorityLocks beside = line();
        beside.giveUp(3);
        due("the holder waits for t, but far below a cut", beside.take(0, 4), WAITS);
        due("and then the cut cannot be closed", beside.take(3, 2), RING);

        PriorityLocks behind = new PriorityLocks();
        behind.take(0, 0);
        behind.take(1, 1);
        behind.take(2, 0);
        due("some wait for t, but not the holder", behind.take(0, 1), WAITS);

        PriorityLocks same = new PriorityLocks();
        same.take(0, 0);
        same.take(1, 1);
        same.take(1, 0);
        same.take(2, 2);
        due("the holder waits for a third's lock", same.take(2, 1), WAITS);
        due("both wait for the same third", same.waitingOn(0), 2 | 4);

        PriorityLocks full = crowd();
        due("five wait for one lock", full.waiting(4), 5);
    }

    // ---- Promise 3

    private static void giveToAWaiter() {
        says("Promise 3: Answers the thread that holds it then");
        for (int t = 0; t < 6; t++) {
            for (int s = 0; s < 6; s++) {
                for (int l = 0; l < 5 && s != t; l++) {
                    PriorityLocks x = new PriorityLocks();
                    x.take(t, l);
                    x.take(s, l);
                    due("give(" + t + ", " + l + ")", x.give(t, l), s);
                    due("holder(" + l + ")", x.holder(l), s);
                    due("held(" + t + ")", x.held(t), 0);
                    due("giving it once more", x.give(t, l), NOT_GIVEN);
                }
            }
        }
    }

    private static void giveWithoutWaiters() {
        says("Promise 3: or NONE when it is free then");
        for (int t = 0; t < 6; t++) {
            for (int l = 0; l < 5; l++) {
                PriorityLocks x = new PriorityLocks();
                int other = (l + 1) % 5;
                int s = (t + 1) % 6;
                x.take(t, l);
                x.take(t, other);
                x.take(s, l);
                x.giveUp(s);
                x.take(s, other);
                due("give(" + t + ", " + l + ")", x.give(t, l), NONE);
                due("holder(" + l + ")", x.holder(l), NONE);
                due("the other lock is kept", x.holder(other), t);
            }
        }
    }

    private static void giveByNoThread() {
        says("Promise 3: -2, changing nothing, when t is not 0 .. 5");
        for (Scene scene : SCENES) {
            for (int t : NOT_THREADS) {
                for (int l = 0; l < 5; l++) {
                    refusedGive(scene, t, l);
                }
            }
        }
    }

    private static void giveOfNoLock() {
        says("Promise 3: -2, changing nothing, when l is not 0 .. 4");
        for (Scene scene : SCENES) {
            for (int l : NOT_LOCKS) {
                for (int t = 0; t < 6; t++) {
                    refusedGive(scene, t, l);
                }
            }
        }
    }

    private static void giveByNoThreadOfNoLock() {
        says("Promise 3: -2, changing nothing, when both t and l are outside");
        for (int t : NOT_THREADS) {
            for (int l : NOT_LOCKS) {
                refusedGive(SCENES.get(1), t, l);
            }
        }
    }

    private static void giveByAWaiter() {
        says("Promise 3: -2, changing nothing, when t waits");
        for (Scene scene : SCENES) {
            for (int l = 0; l < 5; l++) {
                int t = scene.holder()[l];
                if (t != NONE && scene.waits(t)) {
                    refusedGive(scene, t, l);
                }
            }
        }
    }

    private static void giveOfWhatItDoesNotHold() {
        says("Promise 3: -2, changing nothing, when t does not hold l");
        for (Scene scene : SCENES) {
            for (int t = 0; t < 6; t++) {
                for (int l = 0; l < 5; l++) {
                    if (scene.holder()[l] != t) {
                        refusedGive(scene, t, l);
                    }
                }
            }
        }
    }

    // ---- Promise 4

    private static void giveUpStops() {
        says("Promise 4: Thread t stops waiting, and answers true");
        for (int t = 0; t < 6; t++) {
            for (int l = 0; l < 5; l++) {
                PriorityLocks x = new PriorityLocks();
                PriorityLocks twin = new PriorityLocks();
                int s = (t + 1) % 6;
                x.setBase(t, 9);
                twin.setBase(t, 9);
                x.take(s, l);
                twin.take(s, l);
                x.take(t, l);
                due("giveUp(" + t + ")", x.giveUp(t), true);
                due("waitsFor(" + t + ")", x.waitsFor(t), NONE);
                due("waiting(" + l + "), the only one gave up", x.waiting(l), 0);
                due("nextFor(" + l + "), the only one gave up", x.nextFor(l), NONE);
                dueAlike("taken and given up", x, twin);
            }
        }
    }

    private static void giveUpInTheMiddle() {
        says("Promise 4: Thread t stops waiting (in the middle of a line, and one of five)");
        PriorityLocks x = lineDown();
        due("giveUp(2)", x.giveUp(2), true);
        due("it keeps what it holds", x.held(2), 1 << 3);
        dueAll("urgency", new int[] {9, 9, 9, 0, 0, 0}, x::urgency);
        due("it may give now", x.give(2, 3), 1);

        for (int t = 0; t < 5; t++) {
            PriorityLocks y = crowd();
            due("giveUp(" + t + ")", y.giveUp(t), true);
            due("waiting(4)", y.waiting(4), 4);
            due("nextFor(4)", y.nextFor(4), t == 3 ? 4 : 3);
        }
    }

    private static void giveUpWithoutWaiting() {
        says("Promise 4: false when it does not wait");
        for (Scene scene : SCENES) {
            for (int t = 0; t < 6; t++) {
                if (!scene.waits(t)) {
                    refusedGiveUp(scene, t);
                }
            }
        }
        PriorityLocks x = crowd();
        x.give(5, 4);
        due("who just got the lock", x.giveUp(3), false);
        due("and keeps it", x.holder(4), 3);
        x.giveUp(0);
        due("who gave up before", x.giveUp(0), false);
        PriorityLocks ring = line();
        ring.take(0, 4);
        due("whose take was RING", ring.giveUp(0), false);
        PriorityLocks bad = new PriorityLocks();
        bad.take(0, 0);
        bad.take(0, 0);
        due("whose take was BAD", bad.giveUp(0), false);
        due("and keeps what it holds", bad.holder(0), 0);
    }

    private static void giveUpByNoThread() {
        says("Promise 4: false when t is not 0 .. 5");
        for (Scene scene : SCENES) {
            for (int t : NOT_THREADS) {
                refusedGiveUp(scene, t);
            }
        }
    }

    // ---- Promise 5

    private static void setBaseInside() {
        says("Promise 5: Sets the base urgency of thread t and answers true");
        for (Scene scene : SCENES) {
            for (int t = 0; t < 6; t++) {
                for (int u : new int[] {0, 9, 9, 1, 8}) {
                    PriorityLocks x = scene.make().get();
                    int[] want = scene.base().clone();
                    want[t] = u;
                    due("setBase(" + t + ", " + u + ") in '" + scene.name() + "'", x.setBase(t, u), true);
                    dueAll("base", want, x::base);
                    due("a second time", x.setBase(t, u), true);
                    dueAll("waitsFor", scene.waitsFor(), x::waitsFor);
                    dueAll("holder", scene.holder(), x::holder);
                }
            }
        }
    }

    private static void setBaseOfNoThread() {
        says("Promise 5: false, changing nothing, when t is not 0 .. 5");
        for (Scene scene : SCENES) {
            for (int t : NOT_THREADS) {
                refusedSetBase(scene, t, 0);
                refusedSetBase(scene, t, 9);
            }
        }
    }

    private static void setBaseToNoUrgency() {
        says("Promise 5: false, changing nothing, when u is not 0 .. 9");
        for (Scene scene : SCENES) {
            for (int u : NOT_BASES) {
                for (int t = 0; t < 6; t++) {
                    refusedSetBase(scene, t, u);
                }
            }
        }
    }

    private static void setBaseOfNoThreadToNoUrgency() {
        says("Promise 5: false, changing nothing, when both t and u are outside");
        for (int t : NOT_THREADS) {
            for (int u : NOT_BASES) {
                refusedSetBase(SCENES.get(1), t, u);
            }
        }
    }

    // ---- Promises 6 to 15: the questions

    private static void dueOutside(String call, int[] outside, int want, Asked asked) {
        for (Scene scene : SCENES) {
            PriorityLocks x = scene.make().get();
            for (int n : outside) {
                due(call + "(" + n + ") in '" + scene.name() + "'", asked.of(x, n), want);
            }
            dueAlike("asking " + call, x, scene.make().get());
        }
    }

    private interface Asked {
        int of(PriorityLocks x, int n);
    }

    private static void urgencyInside() {
        says("Promise 6: The urgency of thread t");
        int[][] want = {{0, 0, 0, 0, 0, 0}, {6, 6, 6, 4, 3, 0}, {0, 0, 0, 0, 0, 0}, {9, 9, 9, 9, 9, 9}, {3, 3, 3, 3, 3, 3}};
        for (int n = 0; n < 5; n++) {
            dueAll("urgency", want[n], SCENES.get(n).make().get()::urgency);
        }
    }

    private static void urgencyOfNoThread() {
        says("Promise 6: NONE when t is not 0 .. 5");
        dueOutside("urgency", NOT_THREADS, NONE, PriorityLocks::urgency);
    }

    private static void baseInside() {
        says("Promise 7: The base urgency of thread t");
        for (Scene scene : SCENES) {
            dueAll("base", scene.base(), scene.make().get()::base);
        }
        PriorityLocks x = lineDown();
        due("not what is lent to it: base(5)", x.base(5), 0);
    }

    private static void baseOfNoThread() {
        says("Promise 7: NONE when t is not 0 .. 5");
        dueOutside("base", NOT_THREADS, NONE, PriorityLocks::base);
    }

    private static void holderInside() {
        says("Promise 8: The thread that holds lock l");
        for (int t = 0; t < 6; t++) {
            for (int l = 0; l < 5; l++) {
                PriorityLocks x = new PriorityLocks();
                x.take(t, l);
                due("holder(" + l + ")", x.holder(l), t);
            }
        }
        dueAll("all are held, holder", new int[] {0, 1, 2, 3, 4}, line()::holder);
    }

    private static void holderOfAFreeLock() {
        says("Promise 8: NONE when it is free");
        for (Scene scene : SCENES) {
            dueAll("holder", scene.holder(), scene.make().get()::holder);
        }
        PriorityLocks x = line();
        x.give(0, 0);
        x.give(1, 0);
        due("free again: holder(0)", x.holder(0), NONE);
    }

    private static void holderOfNoLock() {
        says("Promise 8: NONE when l is not 0 .. 4");
        dueOutside("holder", NOT_LOCKS, NONE, PriorityLocks::holder);
    }

    private static void waitsForInside() {
        says("Promise 9: The lock that thread t waits for");
        for (int t = 0; t < 6; t++) {
            for (int l = 0; l < 5; l++) {
                PriorityLocks x = new PriorityLocks();
                x.take((t + 1) % 6, l);
                x.take(t, l);
                due("waitsFor(" + t + ")", x.waitsFor(t), l);
            }
        }
    }

    private static void waitsForNothing() {
        says("Promise 9: NONE when it does not wait");
        for (Scene scene : SCENES) {
            dueAll("waitsFor", scene.waitsFor(), scene.make().get()::waitsFor);
        }
        PriorityLocks x = crowd();
        x.giveUp(0);
        due("after giveUp(0)", x.waitsFor(0), NONE);
        x.give(5, 4);
        due("after it got the lock", x.waitsFor(3), NONE);
    }

    private static void waitsForByNoThread() {
        says("Promise 9: NONE when t is not 0 .. 5");
        dueOutside("waitsFor", NOT_THREADS, NONE, PriorityLocks::waitsFor);
    }

    private static void waitingInside() {
        says("Promise 10: The number of threads that wait for lock l");
        for (Scene scene : SCENES) {
            PriorityLocks x = scene.make().get();
            for (int l = 0; l < 5; l++) {
                due("waiting(" + l + ") in '" + scene.name() + "'", x.waiting(l), scene.waiters(l));
            }
        }
        due("five, the most: waiting(4)", crowd().waiting(4), 5);
        due("held, but none waits: waiting(0)", crowd().waiting(0), 0);
    }

    private static void waitingForNoLock() {
        says("Promise 10: 0 when l is not 0 .. 4");
        dueOutside("waiting", NOT_LOCKS, 0, PriorityLocks::waiting);
    }

    private static void nextForInside() {
        says("Promise 11: The thread that would get lock l if its holder gave it back now");
        int[][] want = {{-1, -1, -1, -1, -1}, {1, -1, 2, -1, -1}, {1, 2, 3, 4, 5}, {4, 3, 2, 1, 0}, {-1, -1, -1, -1, 3}};
        for (int n = 0; n < 5; n++) {
            // In the lines most holders wait themselves and could not give: who would get it is due all the same.
            dueAll("nextFor", want[n], SCENES.get(n).make().get()::nextFor);
        }
        PriorityLocks x = crowd();
        due("nextFor(4)", x.nextFor(4), 3);
        due("give(5, 4)", x.give(5, 4), 3);
    }

    private static void nextForWithoutWaiters() {
        says("Promise 11: NONE when none waits for it");
        PriorityLocks x = crowd();
        for (int l = 0; l < 4; l++) {
            due("held: nextFor(" + l + ")", x.nextFor(l), NONE);
        }
        for (int t = 0; t < 5; t++) {
            x.giveUp(t);
        }
        due("all gave up: nextFor(4)", x.nextFor(4), NONE);
        x.give(5, 4);
        due("free: nextFor(4)", x.nextFor(4), NONE);
    }

    private static void nextForNoLock() {
        says("Promise 11: NONE when l is not 0 .. 4");
        dueOutside("nextFor", NOT_LOCKS, NONE, PriorityLocks::nextFor);
    }

    private static void heldInside() {
        says("Promise 12: The locks that thread t holds: bit l for lock l");
        for (int t = 0; t < 6; t++) {
            for (int locks = 0; locks < 32; locks++) {
                PriorityLocks x = new PriorityLocks();
                for (int l = 0; l < 5; l++) {
                    x.take((locks >> l & 1) == 1 ? t : (t + 1) % 6, l);
                }
                due("held(" + t + ")", x.held(t), locks);
                due("what the other holds", x.held((t + 1) % 6), 31 - locks);
            }
        }
        due("what it waits for is not held", crowd().held(0), 0);
    }

    private static void heldByNoThread() {
        says("Promise 12: 0 when t is not 0 .. 5");
        dueOutside("held", NOT_THREADS, 0, PriorityLocks::held);
    }

    private static void runningInside() {
        says("Promise 13: The running thread");
        int[] want = {0, 0, 0, 5, 5};
        for (int n = 0; n < 5; n++) {
            due("running() in '" + SCENES.get(n).name() + "'", SCENES.get(n).make().get().running(), want[n]);
        }
    }

    private static void runningWhenAllOthersWait() {
        says("Promise 13: NONE when all wait (the last one cannot be brought to wait, so it runs)");
        for (int n : new int[] {2, 3, 4}) {
            Scene full = SCENES.get(n);
            int last = full.waits(0) ? 5 : 0;
            for (int l = 0; l < 5; l++) {
                PriorityLocks x = full.make().get();
                due("take(" + last + ", " + l + ")", x.take(last, l), full.holder()[l] == last ? BAD : RING);
                due("running()", x.running(), last);
            }
            PriorityLocks urgent = full.make().get();
            for (int t = 0; t < 6; t++) {
                urgent.setBase(t, t == last ? 0 : 9);
            }
            due("running() with the least base", urgent.running(), last);
        }
    }

    private static void waitingOnInside() {
        says("Promise 14: The threads that wait, directly or through others, for a lock that t holds: bit s for thread s");
        int[][] want = {{0, 0, 0, 0, 0, 0}, {14, 4, 0, 0, 0, 0}, {62, 60, 56, 48, 32, 0},
            {0, 1, 3, 7, 15, 31}, {0, 0, 0, 0, 0, 31}};
        for (int n = 0; n < 5; n++) {
            dueAll("waitingOn", want[n], SCENES.get(n).make().get()::waitingOn);
        }
        for (int t = 0; t < 6; t++) {
            for (int s = 0; s < 6; s++) {
                for (int l = 0; l < 5 && s != t; l++) {
                    PriorityLocks x = new PriorityLocks();
                    x.take(t, l);
                    x.take(s, l);
                    due("waitingOn(" + t + ")", x.waitingOn(t), 1 << s);
                    due("waitingOn(" + s + ")", x.waitingOn(s), 0);
                }
            }
        }
    }

    private static void waitingOnNoThread() {
        says("Promise 14: 0 when t is not 0 .. 5");
        dueOutside("waitingOn", NOT_THREADS, 0, PriorityLocks::waitingOn);
    }

    private static void liftedAtTheEdge() {
        says("Promise 15: The threads whose urgency is above their base urgency");
        for (int own = 0; own <= 9; own++) {
            for (int other = 0; other <= 9; other++) {
                PriorityLocks x = new PriorityLocks();
                x.setBase(4, own);
                x.setBase(2, other);
                x.take(4, 3);
                x.take(2, 3);
                due("base " + own + ", lent " + other, x.lifted(), other > own ? 16 : 0);
            }
        }
    }

    private static void liftedBits() {
        says("Promise 15: bit t for thread t");
        int[] want = {0, 3, 0, 62, 0};
        for (int n = 0; n < 5; n++) {
            due("lifted() in '" + SCENES.get(n).name() + "'", SCENES.get(n).make().get().lifted(), want[n]);
        }
        for (int t = 0; t < 6; t++) {
            PriorityLocks x = new PriorityLocks();
            x.take(t, 0);
            x.take((t + 1) % 6, 0);
            due("none is lifted", x.lifted(), 0);
            x.setBase((t + 1) % 6, 1);
            due("thread " + t + " is lifted", x.lifted(), 1 << t);
        }
        PriorityLocks up = line();
        up.setBase(5, 1);
        due("all but the last of the line", up.lifted(), 31);
    }

    private static void each(Runnable... tests) {
        for (Runnable test : tests) {
            try {
                test.run();
            } catch (RuntimeException thrown) {
                tell("a call threw " + thrown);
            }
        }
    }

    private static void terms() {
        each(
            BoundaryTest::theLastOf512Calls,
            BoundaryTest::theConstants,
            BoundaryTest::termThreads,
            BoundaryTest::termBases,
            BoundaryTest::termLocks,
            BoundaryTest::termWaitsUntilItGetsIt,
            BoundaryTest::termOneWaitAtMost,
            BoundaryTest::termUrgencyWithoutWaiters,
            BoundaryTest::termUrgencyAtTheEdge,
            BoundaryTest::termUrgencyOverAllLocks,
            BoundaryTest::termUrgencyAlongTheLongestLine,
            BoundaryTest::termNoRing,
            BoundaryTest::termFreeLockWithoutWaiters,
            BoundaryTest::termGreatestUrgencyFirst,
            BoundaryTest::termUrgenciesRightBefore,
            BoundaryTest::termLongestWaitFirst,
            BoundaryTest::termRunning);
    }

    private static void promises1To5() {
        each(
            BoundaryTest::promise1Bases,
            BoundaryTest::promise1Locks,
            BoundaryTest::promise1Anew,
            BoundaryTest::takeByNoThread,
            BoundaryTest::takeOfNoLock,
            BoundaryTest::takeByNoThreadOfNoLock,
            BoundaryTest::takeByAWaiter,
            BoundaryTest::takeOfWhatItHolds,
            BoundaryTest::takeOfAFreeLock,
            BoundaryTest::takeOfAllLocks,
            BoundaryTest::takeThatWouldCloseARing,
            BoundaryTest::takeThatWouldCloseALongRing,
            BoundaryTest::takeByTheOnlyHolderOfMany,
            BoundaryTest::takeByTheFirstThatApplies,
            BoundaryTest::takeThatWaits,
            BoundaryTest::giveToAWaiter,
            BoundaryTest::giveWithoutWaiters,
            BoundaryTest::giveByNoThread,
            BoundaryTest::giveOfNoLock,
            BoundaryTest::giveByNoThreadOfNoLock,
            BoundaryTest::giveByAWaiter,
            BoundaryTest::giveOfWhatItDoesNotHold,
            BoundaryTest::giveUpStops,
            BoundaryTest::giveUpInTheMiddle,
            BoundaryTest::giveUpWithoutWaiting,
            BoundaryTest::giveUpByNoThread,
            BoundaryTest::setBaseInside,
            BoundaryTest::setBaseOfNoThread,
            BoundaryTest::setBaseToNoUrgency,
            BoundaryTest::setBaseOfNoThreadToNoUrgency);
    }

    private static void promises6To15() {
        each(
            BoundaryTest::urgencyInside,
            BoundaryTest::urgencyOfNoThread,
            BoundaryTest::baseInside,
            BoundaryTest::baseOfNoThread,
            BoundaryTest::holderInside,
            BoundaryTest::holderOfAFreeLock,
            BoundaryTest::holderOfNoLock,
            BoundaryTest::waitsForInside,
            BoundaryTest::waitsForNothing,
            BoundaryTest::waitsForByNoThread,
            BoundaryTest::waitingInside,
            BoundaryTest::waitingForNoLock,
            BoundaryTest::nextForInside,
            BoundaryTest::nextForWithoutWaiters,
            BoundaryTest::nextForNoLock,
            BoundaryTest::heldInside,
            BoundaryTest::heldByNoThread,
            BoundaryTest::runningInside,
            BoundaryTest::runningWhenAllOthersWait,
            BoundaryTest::waitingOnInside,
            BoundaryTest::waitingOnNoThread,
            BoundaryTest::liftedAtTheEdge,
            BoundaryTest::liftedBits);
    }

    public static void main(String[] args) {
        terms();
        promises1To5();
        promises6To15();
        closeSentence();
        if (wrong != 0) {
            System.out.println(wrong + " answers are not as due; these sentences do not hold:");
            for (String broken : BROKEN) {
                System.out.println("  " + broken);
            }
            System.exit(1);
        }
        System.out.println("all " + sentences + " sentences hold");
    }
}
