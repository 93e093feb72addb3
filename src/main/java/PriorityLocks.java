public final class PriorityLocks {
    public static final int OK = 0;
    public static final int WAITS = 1;
    public static final int BAD = -1;
    public static final int RING = -2;
    public static final int NONE = -1;

    private static final int THREADS = 6;
    private static final int LOCKS = 5;
    private static final int GREATEST_BASE = 9;
    private static final int NOT_GIVEN = -2;

    private final int[] baseOf = new int[THREADS];
    private final int[] holderOf = new int[LOCKS];
    private final int[] awaitedBy = new int[THREADS];
    // Tells who of several has waited longest: a lesser number began earlier.
    private final int[] waitNumber = new int[THREADS];
    private int waitsBegun = 0;

    public PriorityLocks() {
        for (int l = 0; l < LOCKS; l++) {
            holderOf[l] = NONE;
        }
        for (int t = 0; t < THREADS; t++) {
            awaitedBy[t] = NONE;
        }
    }

    public int take(int t, int l) {
        if (!isThread(t) || !isLock(l) || isWaiting(t) || holderOf[l] == t) {
            return BAD;
        }
        int owner = holderOf[l];
        if (owner == NONE) {
            holderOf[l] = t;
            return OK;
        }
        if (waitsThrough(owner, t)) {
            return RING;
        }
        awaitedBy[t] = l;
        waitNumber[t] = waitsBegun;
        waitsBegun++;
        return WAITS;
    }

    public int give(int t, int l) {
        if (!isThread(t) || !isLock(l) || isWaiting(t) || holderOf[l] != t) {
            return NOT_GIVEN;
        }
        int heir = mostUrgentWaiter(l);
        holderOf[l] = heir;
        if (heir != NONE) {
            awaitedBy[heir] = NONE;
        }
        return heir;
    }

    public boolean giveUp(int t) {
        if (!isThread(t) || !isWaiting(t)) {
            return false;
        }
        awaitedBy[t] = NONE;
        return true;
    }

    public boolean setBase(int t, int u) {
        if (!isThread(t) || u < 0 || u > GREATEST_BASE) {
            return false;
        }
        baseOf[t] = u;
        return true;
    }

    public int urgency(int t) {
        return isThread(t) ? urgencyOf(t) : NONE;
    }

    public int base(int t) {
        return isThread(t) ? baseOf[t] : NONE;
    }

    public int holder(int l) {
        return isLock(l) ? holderOf[l] : NONE;
    }

    public int waitsFor(int t) {
        return isThread(t) ? awaitedBy[t] : NONE;
    }

    public int waiting(int l) {
        if (!isLock(l)) {
            return 0;
        }
        int count = 0;
        for (int t = 0; t < THREADS; t++) {
            if (awaitedBy[t] == l) {
                count++;
            }
        }
        return count;
    }

    public int nextFor(int l) {
        return isLock(l) ? mostUrgentWaiter(l) : NONE;
    }

    public int held(int t) {
        if (!isThread(t)) {
            return 0;
        }
        int locks = 0;
        for (int l = 0; l < LOCKS; l++) {
            if (holderOf[l] == t) {
                locks |= 1 << l;
            }
        }
        return locks;
    }

    public int running() {
        int best = NONE;
        int bestUrgency = NONE;
        for (int t = 0; t < THREADS; t++) {
            int own = urgencyOf(t);
            if (!isWaiting(t) && own > bestUrgency) {
                best = t;
                bestUrgency = own;
            }
        }
        return best;
    }

    public int waitingOn(int t) {
        if (!isThread(t)) {
            return 0;
        }
        int threads = 0;
        for (int s = 0; s < THREADS; s++) {
            if (waitsThrough(s, t)) {
                threads |= 1 << s;
            }
        }
        return threads;
    }

    public int lifted() {
        int threads = 0;
        for (int t = 0; t < THREADS; t++) {
            if (urgencyOf(t) > baseOf[t]) {
                threads |= 1 << t;
            }
        }
        return threads;
    }

    private static boolean isThread(int t) {
        return t >= 0 && t < THREADS;
    }

    private static boolean isLock(int l) {
        return l >= 0 && l < LOCKS;
    }

    private boolean isWaiting(int t) {
        return awaitedBy[t] != NONE;
    }

    private int blockerOf(int t) {
        int l = awaitedBy[t];
        return l == NONE ? NONE : holderOf[l];
    }

    // A thread waits for one lock at most and never in a ring, so the way from
    // it is a single line that is shorter than the number of threads.
    private boolean waitsThrough(int s, int t) {
        int blocker = blockerOf(s);
        for (int step = 0; step < THREADS && blocker != NONE; step++) {
            if (blocker == t) {
                return true;
            }
            blocker = blockerOf(blocker);
        }
        return false;
    }

    // Every urgency is in the end some thread's base urgency, so the bases of
    // all that wait for t, directly or through others, stand for their urgencies.
    private int urgencyOf(int t) {
        int greatest = baseOf[t];
        for (int s = 0; s < THREADS; s++) {
            if (baseOf[s] > greatest && waitsThrough(s, t)) {
                greatest = baseOf[s];
            }
        }
        return greatest;
    }

    private int mostUrgentWaiter(int l) {
        int best = NONE;
        int bestUrgency = NONE;
        for (int t = 0; t < THREADS; t++) {
            if (awaitedBy[t] == l) {
                int own = urgencyOf(t);
                if (best == NONE || own > bestUrgency
                        || (own == bestUrgency && waitNumber[t] < waitNumber[best])) {
                    best = t;
                    bestUrgency = own;
                }
            }
        }
        return best;
    }
}
