import java.util.Arrays;

/**
 * Every state that a few threads and locks can be in, all questions there, and each change that these threads can
 * ask for there. What is due is read off a picture of the state, by the document's terms.
 */
public final class StatesTest {
    private static final int OK = 0;
    private static final int WAITS = 1;
    private static final int BAD = -1;
    private static final int RING = -2;
    private static final int NONE = -1;
    private static final int NOT_GIVEN = -2;
    private static final int THREADS = 6;
    private static final int LOCKS = 5;
    private static final int TAKE = 0;
    private static final int GIVE = 1;
    private static final int GIVE_UP = 2;
    private static final int SET_BASE = 3;
    private static final String[] KINDS = {"take", "give", "giveUp", "setBase"};
    private static final int[] NEW_BASES = {0, 4, 9};
    private static final int SHOWN = 20;
    private static int wrong = 0;
    private static int states = 0;
    private static int madeKind = NONE;
    private static int madeThread = NONE;
    private static int madeNumber = NONE;

    /** A state as a picture: who holds each lock, and who waits for it, the longest waiting first. */
    private static final class Picture {
        final int[] base = new int[THREADS];
        final int[] holder = {NONE, NONE, NONE, NONE, NONE};
        final int[][] queue = new int[LOCKS][THREADS];
        final int[] waiters = new int[LOCKS];

        Picture copy() {
            Picture other = new Picture();
            System.arraycopy(base, 0, other.base, 0, THREADS);
            System.arraycopy(holder, 0, other.holder, 0, LOCKS);
            System.arraycopy(waiters, 0, other.waiters, 0, LOCKS);
            for (int l = 0; l < LOCKS; l++) {
                System.arraycopy(queue[l], 0, other.queue[l], 0, THREADS);
            }
            return other;
        }

        void enter(int t, int l, int place) {
            System.arraycopy(queue[l], place, queue[l], place + 1, waiters[l] - place);
            queue[l][place] = t;
            waiters[l]++;
        }

        void leave(int t, int l) {
            int place = 0;
            while (queue[l][place] != t) {
                place++;
            }
            waiters[l]--;
            System.arraycopy(queue[l], place + 1, queue[l], place, waiters[l] - place);
        }

        int waitsFor(int t) {
            for (int l = 0; l < LOCKS; l++) {
                for (int place = 0; place < waiters[l]; place++) {
                    if (queue[l][place] == t) {
                        return l;
                    }
                }
            }
            return NONE;
        }

        int held(int t) {
            int locks = 0;
            for (int l = 0; l < LOCKS; l++) {
                locks |= holder[l] == t ? 1 << l : 0;
            }
            return locks;
        }

        /** For each thread those that wait for its locks; widened until those that wait for these are in it too. */
        int[] waitingOn() {
            int[] behind = new int[THREADS];
            boolean grew = true;
            while (grew) {
                grew = false;
                for (int l = 0; l < LOCKS; l++) {
                    for (int place = 0; place < waiters[l]; place++) {
                        int more = behind[holder[l]] | 1 << queue[l][place] | behind[queue[l][place]];
                        grew |= more != behind[holder[l]];
                        behind[holder[l]] = more;
                    }
                }
            }
            return behind;
        }

        /** Raises holders to the urgency of their waiters until none is below one of its own. */
        int[] urgencies() {
            int[] urgency = base.clone();
            boolean rose = true;
            while (rose) {
                rose = false;
                for (int l = 0; l < LOCKS; l++) {
                    for (int place = 0; place < waiters[l]; place++) {
                        if (urgency[queue[l][place]] > urgency[holder[l]]) {
                            urgency[holder[l]] = urgency[queue[l][place]];
                            rose = true;
                        }
                    }
                }
            }
            return urgency;
        }

        int nextFor(int l, int[] urgency) {
            int next = NONE;
            for (int place = waiters[l] - 1; place >= 0; place--) {
                if (next == NONE || urgency[queue[l][place]] >= urgency[next]) {
                    next = queue[l][place];
                }
            }
            return next;
        }

        int running(int[] urgency) {
            int running = NONE;
            for (int t = THREADS - 1; t >= 0; t--) {
                if (waitsFor(t) == NONE && (running == NONE || urgency[t] >= urgency[running])) {
                    running = t;
                }
            }
            return running;
        }

        int take(int t, int l) {
            if (waitsFor(t) != NONE || holder[l] == t) {
                return BAD;
            }
            if (holder[l] == NONE) {
                holder[l] = t;
                return OK;
            }
            if ((waitingOn()[t] >> holder[l] & 1) == 1) {
                return RING;
            }
            enter(t, l, waiters[l]);
            return WAITS;
        }

        int give(int t, int l) {
            if (waitsFor(t) != NONE || holder[l] != t) {
                return NOT_GIVEN;
            }
            int next = nextFor(l, urgencies());
            if (next != NONE) {
                leave(next, l);
            }
            holder[l] = next;
            return next;
        }

        int giveUp(int t) {
            int l = waitsFor(t);
            if (l == NONE) {
                return 0;
            }
            leave(t, l);
            return 1;
        }

        int setBase(int t, int u) {
            base[t] = u;
            return 1;
        }

        @Override
        public String toString() {
            StringBuilder told = new StringBuilder("bases " + Arrays.toString(base));
            for (int l = 0; l < LOCKS; l++) {
                int[] line = Arrays.copyOf(queue[l], waiters[l]);
                told.append(", lock " + l + " held by " + holder[l] + " awaited by " + Arrays.toString(line));
            }
            return told.toString();
        }
    }

    private static void due(String call, int n, int got, int want, Picture picture) {
        if (got != want) {
            wrong++;
            if (wrong <= SHOWN) {
                System.out.println(call + " " + (n == NONE ? "" : n + " ") + "answered " + got + ", due is " + want
                    + madeBefore() + ", where\n    " + picture);
            }
        }
    }

    // Kept as numbers and told only when an answer is wrong: to put every call in words takes most of the time.
    private static String madeBefore() {
        if (madeKind == NONE) {
            return "";
        }
        String second = madeKind == GIVE_UP ? "" : ", " + madeNumber;
        return " after " + KINDS[madeKind] + "(" + madeThread + second + ")";
    }

    /** Any state is reached by taking what is held and then waiting, in the order of the queues. */
    private static PriorityLocks build(Picture picture) {
        PriorityLocks x = new PriorityLocks();
        for (int t = 0; t < THREADS; t++) {
            x.setBase(t, picture.base[t]);
        }
        for (int l = 0; l < LOCKS; l++) {
            if (picture.holder[l] != NONE) {
                x.take(picture.holder[l], l);
            }
        }
        for (int l = 0; l < LOCKS; l++) {
            for (int place = 0; place < picture.waiters[l]; place++) {
                x.take(picture.queue[l][place], l);
            }
        }
        return x;
    }

    private static void askAll(PriorityLocks x, Picture picture) {
        int[] urgency = picture.urgencies();
        int[] behind = picture.waitingOn();
        int lifted = 0;
        for (int t = 0; t < THREADS; t++) {
            due("base", t, x.base(t), picture.base[t], picture);
            due("urgency", t, x.urgency(t), urgency[t], picture);
            due("waitsFor", t, x.waitsFor(t), picture.waitsFor(t), picture);
            due("held", t, x.held(t), picture.held(t), picture);
            due("waitingOn", t, x.waitingOn(t), behind[t], picture);
            lifted |= urgency[t] > picture.base[t] ? 1 << t : 0;
        }
        for (int l = 0; l < LOCKS; l++) {
            due("holder", l, x.holder(l), picture.holder[l], picture);
            due("waiting", l, x.waiting(l), picture.waiters[l], picture);
            due("nextFor", l, x.nextFor(l), picture.nextFor(l, urgency), picture);
        }
        due("running", NONE, x.running(), picture.running(urgency), picture);
        due("lifted", NONE, x.lifted(), lifted, picture);
    }

    /** Hands all locks on until all are free, as the questions do not show the whole order of the waits. */
    private static void drain(PriorityLocks x, Picture picture) {
        Picture left = picture.copy();
        boolean given = true;
        while (given) {
            given = false;
            for (int l = 0; l < LOCKS; l++) {
                int t = left.holder[l];
                if (t != NONE && left.waitsFor(t) == NONE) {
                    due("draining, give of lock", l, x.give(t, l), left.give(t, l), picture);
                    given = true;
                }
            }
        }
    }

    private static int make(PriorityLocks x, int kind, int t, int n) {
        switch (kind) {
            case TAKE: return x.take(t, n);
            case GIVE: return x.give(t, n);
            case GIVE_UP: return x.giveUp(t) ? 1 : 0;
            default: return x.setBase(t, n) ? 1 : 0;
        }
    }

    private static int make(Picture picture, int kind, int t, int n) {
        switch (kind) {
            case TAKE: return picture.take(t, n);
            case GIVE: return picture.give(t, n);
            case GIVE_UP: return picture.giveUp(t);
            default: return picture.setBase(t, n);
        }
    }

    private static void change(Picture before, int kind, int t, int n) {
        PriorityLocks x = build(before);
        Picture after = before.copy();
        madeKind = kind;
        madeThread = t;
        madeNumber = n;
        due("that call", NONE, make(x, kind, t, n), make(after, kind, t, n), before);
        askAll(x, after);
        drain(x, after);
        madeKind = NONE;
    }

    /** So many threads and locks, from the first ones on, with so many different base urgencies. */
    private record Scope(int firstThread, int threads, int firstLock, int locks, int levels) {
        void lookAtAll() {
            pickBase(new Picture(), firstThread);
        }

        private void lookAt(Picture picture) {
            states++;
            askAll(build(picture), picture);
            for (int t = firstThread; t < firstThread + threads; t++) {
                for (int l = firstLock; l < firstLock + locks; l++) {
                    change(picture, TAKE, t, l);
                    change(picture, GIVE, t, l);
                }
                change(picture, GIVE_UP, t, NONE);
                for (int u : NEW_BASES) {
                    change(picture, SET_BASE, t, u);
                }
            }
        }

        private void pickBase(Picture picture, int t) {
            if (t == firstThread + threads) {
                pickHolder(picture, firstLock);
                return;
            }
            for (int level = 0; level < levels; level++) {
                picture.base[t] = level * 9 / (levels > 1 ? levels - 1 : 1);
                pickBase(picture, t + 1);
            }
        }

        private void pickHolder(Picture picture, int l) {
            if (l == firstLock + locks) {
                pickWait(picture, firstThread);
                return;
            }
            pickHolder(picture, l + 1);
            for (int t = firstThread; t < firstThread + threads; t++) {
                picture.holder[l] = t;
                pickHolder(picture, l + 1);
            }
            picture.holder[l] = NONE;
        }

        /** Thread t waits for nothing, or in any place of any queue that closes no ring. */
        private void pickWait(Picture picture, int t) {
            if (t == firstThread + threads) {
                lookAt(picture);
                return;
            }
            pickWait(picture, t + 1);
            for (int l = firstLock; l < firstLock + locks; l++) {
                int owner = picture.holder[l];
                if (owner != NONE && owner != t && (picture.waitingOn()[t] >> owner & 1) == 0) {
                    for (int place = 0; place <= picture.waiters[l]; place++) {
                        picture.enter(t, l, place);
                        pickWait(picture, t + 1);
                        picture.leave(t, l);
                    }
                }
            }
        }
    }

    private static final Scope[] SCOPES = {
        new Scope(0, 6, 2, 1, 1),
        new Scope(1, 5, 0, 1, 2),
        new Scope(0, 2, 0, 5, 2),
        new Scope(4, 2, 0, 5, 2),
        new Scope(0, 3, 2, 3, 3),
        new Scope(3, 3, 0, 3, 3),
        new Scope(1, 4, 1, 2, 2),
        new Scope(2, 4, 1, 3, 1),
    };
    // Counted apart, by choosing holders, waits and the orders of the waits.
    private static final int EVERY_STATE = 90974;

    public static void main(String[] args) {
        for (Scope scope : SCOPES) {
            scope.lookAtAll();
        }
        // A search that misses states would pass unseen.
        due("the number of states", NONE, states, EVERY_STATE, new Picture());
        System.out.println(wrong == 0 ? "all answers are as due in " + states + " states"
            : wrong + " answers are not as due");
        if (wrong != 0) {
            System.exit(1);
        }
    }
}
