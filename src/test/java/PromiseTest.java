/** Each promise of the document by hand-made runs: ordinary inputs, edges and wrong inputs. */
public final class PromiseTest {
    private static final int[] WRONG_THREADS = {-1, 6, -2, 7, 31, 32, Integer.MIN_VALUE, Integer.MAX_VALUE};
    private static final int[] WRONG_LOCKS = {-1, 5, -2, 6, 31, 32, Integer.MIN_VALUE, Integer.MAX_VALUE};
    private static final int[] WRONG_BASES = {-1, 10, -2, 100, Integer.MIN_VALUE, Integer.MAX_VALUE};
    private static int wrong = 0;

    private static void due(String call, int got, int want) {
        if (got != want) {
            wrong++;
            System.out.println(call + " answered " + got + ", due is " + want);
        }
    }

    private static void due(String call, boolean got, boolean want) {
        due(call, got ? 1 : 0, want ? 1 : 0);
    }

    /** Everything that the questions answer, to show that a refused call changes nothing. */
    private static String stateOf(PriorityLocks x) {
        StringBuilder state = new StringBuilder();
        for (int t = 0; t < 6; t++) {
            state.append("t" + t + " " + x.base(t) + " " + x.urgency(t) + " " + x.waitsFor(t)
                + " " + x.held(t) + " " + x.waitingOn(t) + "; ");
        }
        for (int l = 0; l < 5; l++) {
            state.append("l" + l + " " + x.holder(l) + " " + x.waiting(l) + " " + x.nextFor(l) + "; ");
        }
        return state + "running " + x.running() + " lifted " + x.lifted();
    }

    private static void dueUnchanged(String after, PriorityLocks x, String before) {
        String now = stateOf(x);
        if (!now.equals(before)) {
            wrong++;
            System.out.println(after + " changed the state from\n  " + before + "\nto\n  " + now);
        }
    }

    /** 0 holds locks 0 and 1, 1 holds 2 and waits for 0, 2 waits for 2, 3 waits for 0. */
    private static PriorityLocks busy() {
        PriorityLocks x = new PriorityLocks();
        x.setBase(0, 1);
        x.setBase(1, 2);
        x.setBase(2, 6);
        x.setBase(3, 4);
        x.setBase(4, 3);
        x.take(0, 0);
        x.take(0, 1);
        x.take(1, 2);
        x.take(1, 0);
        x.take(2, 2);
        x.take(3, 0);
        return x;
    }

    private static void promise1NewObject() {
        PriorityLocks x = new PriorityLocks();
        for (int t = 0; t < 6; t++) {
            due("1: base(" + t + ")", x.base(t), 0);
            due("1: urgency(" + t + ")", x.urgency(t), 0);
            due("1: waitsFor(" + t + ")", x.waitsFor(t), PriorityLocks.NONE);
            due("1: held(" + t + ")", x.held(t), 0);
            due("1: waitingOn(" + t + ")", x.waitingOn(t), 0);
        }
        for (int l = 0; l < 5; l++) {
            due("1: holder(" + l + ")", x.holder(l), PriorityLocks.NONE);
            due("1: waiting(" + l + ")", x.waiting(l), 0);
            due("1: nextFor(" + l + ")", x.nextFor(l), PriorityLocks.NONE);
        }
        due("1: running()", x.running(), 0);
        due("1: lifted()", x.lifted(), 0);

        busy();
        due("1: holder(0), objects apart", x.holder(0), PriorityLocks.NONE);
        due("1: base(2), objects apart", x.base(2), 0);
    }

    private static void promise2Take() {
        for (int t = 0; t < 6; t++) {
            for (int l = 0; l < 5; l++) {
                PriorityLocks x = new PriorityLocks();
                int other = (t + 1) % 6;
                due("2: take free", x.take(t, l), PriorityLocks.OK);
                due("2: holder", x.holder(l), t);
                due("2: waitsFor of holder", x.waitsFor(t), PriorityLocks.NONE);
                due("2: take again", x.take(t, l), PriorityLocks.BAD);
                due("2: take held", x.take(other, l), PriorityLocks.WAITS);
                due("2: holder stays", x.holder(l), t);
                due("2: waitsFor of waiter", x.waitsFor(other), l);
                due("2: waiter takes the same", x.take(other, l), PriorityLocks.BAD);
                due("2: waiter takes a free one", x.take(other, (l + 1) % 5), PriorityLocks.BAD);
                due("2: free one stays free", x.holder((l + 1) % 5), PriorityLocks.NONE);
            }
        }
        PriorityLocks all = new PriorityLocks();
        for (int l = 0; l < 5; l++) {
            due("2: one thread takes lock " + l, all.take(3, l), PriorityLocks.OK);
        }
        due("2: held by one thread", all.held(3), 31);
        for (int t = 0; t < 6; t++) {
            if (t != 3) {
                due("2: five wait for one lock", all.take(t, 4), PriorityLocks.WAITS);
            }
        }
        due("2: waiting(4)", all.waiting(4), 5);
    }

    private static void promise2TakeWrong() {
        PriorityLocks x = busy();
        String before = stateOf(x);
        for (int t : WRONG_THREADS) {
            due("2: take(" + t + ", 3)", x.take(t, 3), PriorityLocks.BAD);
            due("2: take(" + t + ", 0)", x.take(t, 0), PriorityLocks.BAD);
            due("2: take(" + t + ", -1)", x.take(t, -1), PriorityLocks.BAD);
        }
        for (int l : WRONG_LOCKS) {
            due("2: take(4, " + l + ")", x.take(4, l), PriorityLocks.BAD);
            due("2: take(1, " + l + ")", x.take(1, l), PriorityLocks.BAD);
        }
        dueUnchanged("2: a take that is BAD", x, before);
    }

    private static void promise2TakeRing() {
        PriorityLocks two = new PriorityLocks();
        two.take(0, 0);
        two.take(1, 1);
        two.take(0, 1);
        String before = stateOf(two);
        due("2: ring of two", two.take(1, 0), PriorityLocks.RING);
        dueUnchanged("2: ring of two", two, before);
        due("2: a free lock is no ring", two.take(1, 2), PriorityLocks.OK);
        due("2: BAD comes before RING: a waiter", two.take(0, 2), PriorityLocks.BAD);
        due("2: a third may wait behind both", two.take(2, 0), PriorityLocks.WAITS);

        PriorityLocks five = new PriorityLocks();
        for (int t = 0; t < 5; t++) {
            five.take(t, t);
        }
        for (int t = 1; t < 5; t++) {
            due("2: chain", five.take(t, t - 1), PriorityLocks.WAITS);
        }
        before = stateOf(five);
        for (int l = 1; l < 5; l++) {
            due("2: ring of " + (l + 1), five.take(0, l), PriorityLocks.RING);
        }
        dueUnchanged("2: rings of several", five, before);
        due("2: outside the chain", five.take(5, 4), PriorityLocks.WAITS);
        due("2: giveUp opens the ring", five.giveUp(2), true);
        due("2: no ring any more", five.take(0, 2), PriorityLocks.WAITS);
        due("2: ring the other way", five.take(2, 1), PriorityLocks.RING);

        PriorityLocks side = new PriorityLocks();
        side.take(0, 0);
        side.take(1, 1);
        side.take(1, 0);
        side.take(2, 2);
        due("2: the holder waits, but not for t", side.take(2, 1), PriorityLocks.WAITS);
    }

    private static void promise3Give() {
        PriorityLocks x = new PriorityLocks();
        x.take(2, 3);
        x.take(2, 4);
        due("3: none waits", x.give(2, 3), PriorityLocks.NONE);
        due("3: free now", x.holder(3), PriorityLocks.NONE);
        due("3: the other is kept", x.holder(4), 2);
        due("3: given twice", x.give(2, 3), -2);
        due("3: a free lock can be taken anew", x.take(5, 3), PriorityLocks.OK);

        PriorityLocks longest = new PriorityLocks();
        longest.take(0, 0);
        int[] order = {4, 2, 5, 1, 3};
        for (int t : order) {
            longest.take(t, 0);
        }
        int from = 0;
        for (int t : order) {
            due("3: longest waiting first", longest.give(from, 0), t);
            due("3: holder", longest.holder(0), t);
            due("3: waits no more", longest.waitsFor(t), PriorityLocks.NONE);
            from = t;
        }
        due("3: last one", longest.give(from, 0), PriorityLocks.NONE);

        PriorityLocks urgent = new PriorityLocks();
        urgent.take(0, 0);
        for (int t = 1; t < 6; t++) {
            urgent.take(t, 0);
            urgent.setBase(t, t);
        }
        for (int t = 5; t >= 1; t--) {
            due("3: most urgent first", urgent.give((t + 1) % 6, 0), t);
        }
    }

    private static void promise3GiveByLentUrgency() {
        PriorityLocks x = new PriorityLocks();
        x.setBase(1, 5);
        x.setBase(3, 7);
        x.take(0, 0);
        x.take(2, 1);
        x.take(1, 0);
        x.take(2, 0);
        x.take(3, 1);
        due("3: lent urgency counts", x.give(0, 0), 2);
        due("3: the others still wait", x.waitsFor(1), 0);
        due("3: and lend to the new holder", x.waitingOn(2), 2 | 8);
        due("3: two locks, the second", x.give(2, 1), 3);
        due("3: two locks, the first", x.give(2, 0), 1);

        PriorityLocks tie = new PriorityLocks();
        tie.setBase(1, 7);
        tie.setBase(3, 7);
        tie.take(0, 0);
        tie.take(2, 1);
        tie.take(2, 0);
        tie.take(1, 0);
        tie.take(3, 1);
        due("3: a tie by lent urgency goes to the longer wait", tie.give(0, 0), 2);
    }

    private static void promise3GiveWrong() {
        PriorityLocks x = busy();
        String before = stateOf(x);
        for (int t : WRONG_THREADS) {
            for (int l = 0; l < 5; l++) {
                due("3: give(" + t + ", " + l + ")", x.give(t, l), -2);
            }
        }
        for (int l : WRONG_LOCKS) {
            due("3: give(0, " + l + ")", x.give(0, l), -2);
        }
        due("3: a waiter gives what it holds", x.give(1, 2), -2);
        due("3: a waiter gives what it waits for", x.give(1, 0), -2);
        due("3: gives what another holds", x.give(0, 2), -2);
        due("3: gives a free lock", x.give(0, 3), -2);
        due("3: gives without holding any", x.give(4, 0), -2);
        dueUnchanged("3: a give that is refused", x, before);
    }

    private static void promise4GiveUp() {
        PriorityLocks x = busy();
        due("4: giveUp(1)", x.giveUp(1), true);
        due("4: waitsFor(1)", x.waitsFor(1), PriorityLocks.NONE);
        due("4: waiting(0)", x.waiting(0), 1);
        due("4: keeps what it holds", x.held(1), 4);
        due("4: lends no more", x.urgency(0), 4);
        due("4: is lent to still", x.urgency(1), 6);
        due("4: again", x.giveUp(1), false);
        due("4: gets nothing later", x.give(0, 0), 3);
        due("4: can give now", x.give(1, 2), 2);

        PriorityLocks back = new PriorityLocks();
        back.take(0, 0);
        back.take(1, 0);
        back.take(2, 0);
        back.giveUp(1);
        due("4: the next one moves up", back.nextFor(0), 2);
        back.take(1, 0);
        due("4: who comes back waits anew", back.nextFor(0), 2);

        PriorityLocks y = busy();
        String before = stateOf(y);
        for (int t : WRONG_THREADS) {
            due("4: giveUp(" + t + ")", y.giveUp(t), false);
        }
        due("4: a holder does not wait", y.giveUp(0), false);
        due("4: an idle thread does not wait", y.giveUp(5), false);
        dueUnchanged("4: a giveUp that is false", y, before);
    }

    private static void promise5And7Base() {
        PriorityLocks x = busy();
        for (int t = 0; t < 6; t++) {
            for (int u = 9; u >= 0; u--) {
                due("5: setBase(" + t + ", " + u + ")", x.setBase(t, u), true);
                due("7: base(" + t + ")", x.base(t), u);
            }
            x.setBase(t, t + 1);
        }
        for (int t = 0; t < 6; t++) {
            due("7: base(" + t + "), not the urgency", x.base(t), t + 1);
        }
        String before = stateOf(x);
        for (int t : WRONG_THREADS) {
            due("5: setBase(" + t + ", 5)", x.setBase(t, 5), false);
            due("7: base(" + t + ")", x.base(t), PriorityLocks.NONE);
        }
        for (int u : WRONG_BASES) {
            for (int t = 0; t < 6; t++) {
                due("5: setBase(" + t + ", " + u + ")", x.setBase(t, u), false);
            }
        }
        dueUnchanged("5: a setBase that is false", x, before);
    }

    private static void promise6Urgency() {
        PriorityLocks x = busy();
        int[] want = {6, 6, 6, 4, 3, 0};
        for (int t = 0; t < 6; t++) {
            due("6: urgency(" + t + ")", x.urgency(t), want[t]);
        }
        x.setBase(2, 0);
        due("6: a lowered base lends less", x.urgency(0), 4);
        due("6: down to its own base", x.urgency(1), 2);
        x.setBase(0, 9);
        due("6: its own base is greatest", x.urgency(0), 9);
        due("6: a holder lends nothing to its waiters", x.urgency(3), 4);
        x.setBase(3, 9);
        x.setBase(0, 0);
        due("6: a raised base of a waiter", x.urgency(0), 9);
        x.give(0, 0);
        due("6: after giving back", x.urgency(0), 0);
        due("6: the new holder", x.urgency(3), 9);

        PriorityLocks several = new PriorityLocks();
        for (int l = 0; l < 5; l++) {
            several.take(5, l);
            several.setBase(l, l == 2 ? 8 : l);
            several.take(l, l);
        }
        due("6: greatest over all locks", several.urgency(5), 8);
        several.give(5, 2);
        due("6: and over those left", several.urgency(5), 4);
        for (int t : WRONG_THREADS) {
            due("6: urgency(" + t + ")", several.urgency(t), PriorityLocks.NONE);
        }
    }

    private static void promises8To12Questions() {
        PriorityLocks x = busy();
        int[] holder = {0, 0, 1, -1, -1};
        int[] waiting = {2, 0, 1, 0, 0};
        int[] next = {1, -1, 2, -1, -1};
        for (int l = 0; l < 5; l++) {
            due("8: holder(" + l + ")", x.holder(l), holder[l]);
            due("10: waiting(" + l + ")", x.waiting(l), waiting[l]);
            due("11: nextFor(" + l + ")", x.nextFor(l), next[l]);
        }
        int[] waitsFor = {-1, 0, 2, 0, -1, -1};
        int[] held = {3, 4, 0, 0, 0, 0};
        for (int t = 0; t < 6; t++) {
            due("9: waitsFor(" + t + ")", x.waitsFor(t), waitsFor[t]);
            due("12: held(" + t + ")", x.held(t), held[t]);
        }
        for (int l : WRONG_LOCKS) {
            due("8: holder(" + l + ")", x.holder(l), PriorityLocks.NONE);
            due("10: waiting(" + l + ")", x.waiting(l), 0);
            due("11: nextFor(" + l + ")", x.nextFor(l), PriorityLocks.NONE);
        }
        for (int t : WRONG_THREADS) {
            due("9: waitsFor(" + t + ")", x.waitsFor(t), PriorityLocks.NONE);
            due("12: held(" + t + ")", x.held(t), 0);
        }
        x.take(5, 4);
        due("12: held(5), the greatest lock", x.held(5), 16);
    }

    private static void promise11NextFor() {
        PriorityLocks x = new PriorityLocks();
        x.take(0, 2);
        x.take(5, 2);
        x.take(1, 2);
        due("11: longest waiting", x.nextFor(2), 5);
        x.setBase(1, 1);
        due("11: most urgent", x.nextFor(2), 1);
        x.setBase(5, 1);
        due("11: longest waiting of the most urgent", x.nextFor(2), 5);
        x.setBase(0, 9);
        due("11: whatever the holder's urgency", x.nextFor(2), 5);
        due("11: asking gives nothing away", x.holder(2), 0);
        due("11: as give does", x.give(0, 2), 5);
        x.take(0, 2);
        due("11: thread 0 as waiter", x.nextFor(2), 0);
        due("3: thread 0 as waiter", x.give(5, 2), 0);
    }

    private static void promise13Running() {
        PriorityLocks x = busy();
        due("13: lent urgency counts", x.running(), 0);
        x.setBase(4, 6);
        due("13: least number of several", x.running(), 0);
        x.setBase(4, 7);
        due("13: greatest urgency", x.running(), 4);
        x.setBase(5, 8);
        due("13: the last thread", x.running(), 5);
        x.setBase(1, 9);
        due("13: a waiting thread does not run", x.running(), 0);

        PriorityLocks one = new PriorityLocks();
        one.take(5, 0);
        for (int t = 0; t < 5; t++) {
            one.take(t, 0);
        }
        due("13: only one is runnable", one.running(), 5);
    }

    private static void promise14WaitingOn() {
        PriorityLocks x = busy();
        int[] want = {2 | 4 | 8, 4, 0, 0, 0, 0};
        for (int t = 0; t < 6; t++) {
            due("14: waitingOn(" + t + ")", x.waitingOn(t), want[t]);
        }
        x.giveUp(1);
        due("14: cut in the middle", x.waitingOn(0), 8);
        for (int t : WRONG_THREADS) {
            due("14: waitingOn(" + t + ")", x.waitingOn(t), 0);
        }

        PriorityLocks chain = new PriorityLocks();
        for (int t = 0; t < 5; t++) {
            chain.take(t, t);
        }
        for (int t = 1; t < 6; t++) {
            chain.take(t, t - 1);
        }
        int[] behind = {62, 60, 56, 48, 32, 0};
        for (int t = 0; t < 6; t++) {
            due("14: longest chain, waitingOn(" + t + ")", chain.waitingOn(t), behind[t]);
        }

        PriorityLocks down = new PriorityLocks();
        down.take(5, 0);
        down.take(0, 0);
        due("14: thread 0 as waiter", down.waitingOn(5), 1);
    }

    private static void promise15Lifted() {
        PriorityLocks x = busy();
        due("15: lifted()", x.lifted(), 1 | 2);
        x.setBase(0, 6);
        due("15: equal is not above", x.lifted(), 2);
        x.setBase(0, 5);
        due("15: by one", x.lifted(), 1 | 2);
        x.setBase(2, 2);
        due("15: none above", x.lifted(), 0);
        PriorityLocks last = new PriorityLocks();
        last.take(5, 0);
        last.setBase(0, 1);
        last.take(0, 0);
        due("15: the last thread", last.lifted(), 32);
    }

    /** The run that README.md shows: to be changed together with it. */
    private static void readmeRun() {
        PriorityLocks locks = new PriorityLocks();
        locks.setBase(0, 1);
        locks.setBase(1, 7);
        due("README: take(0, 3)", locks.take(0, 3), PriorityLocks.OK);
        due("README: take(1, 3)", locks.take(1, 3), PriorityLocks.WAITS);
        due("README: urgency(0)", locks.urgency(0), 7);
        due("README: lifted()", locks.lifted(), 1);
        due("README: running()", locks.running(), 0);
        due("README: give(0, 3)", locks.give(0, 3), 1);
        due("README: urgency(0) again", locks.urgency(0), 1);
    }

    private static void constants() {
        due("OK", PriorityLocks.OK, 0);
        due("WAITS", PriorityLocks.WAITS, 1);
        due("BAD", PriorityLocks.BAD, -1);
        due("RING", PriorityLocks.RING, -2);
        due("NONE", PriorityLocks.NONE, -1);
    }

    public static void main(String[] args) {
        constants();
        promise1NewObject();
        promise2Take();
        promise2TakeWrong();
        promise2TakeRing();
        promise3Give();
        promise3GiveByLentUrgency();
        promise3GiveWrong();
        promise4GiveUp();
        promise5And7Base();
        promise6Urgency();
        promises8To12Questions();
        promise11NextFor();
        promise13Running();
        promise14WaitingOn();
        promise15Lifted();
        readmeRun();
        System.out.println(wrong == 0 ? "all answers are as due" : wrong + " answers are not as due");
        if (wrong != 0) {
            System.exit(1);
        }
    }
}
