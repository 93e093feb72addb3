import java.util.ArrayList;
import java.util.List;

/** Long mixed runs, each answer held against a second, plainer writing of the document. */
public final class ModelTest {
    private static final int RUNS = 4000;
    private static final int CALLS = 512;
    private static final int KINDS = 14;
    private static final int SHOWN = 20;
    private static int wrong = 0;
    private static long seed = 20261115L;

    /** Holds, for each lock, its holder and a queue of waiters; reads the terms as they are written. */
    private static final class Model {
        final int[] base = new int[6];
        final int[] holder = {-1, -1, -1, -1, -1};
        final List<List<Integer>> queues = new ArrayList<>();

        Model() {
            for (int l = 0; l < 5; l++) {
                queues.add(new ArrayList<>());
            }
        }

        static boolean thread(int t) {
            return 0 <= t && t <= 5;
        }

        static boolean lock(int l) {
            return 0 <= l && l <= 4;
        }

        int waitsFor(int t) {
            for (int l = 0; l < 5; l++) {
                if (queues.get(l).contains(t)) {
                    return l;
                }
            }
            return -1;
        }

        int urgency(int t) {
            if (!thread(t)) {
                return -1;
            }
            int greatest = base[t];
            for (int l = 0; l < 5; l++) {
                if (holder[l] == t) {
                    for (int s : queues.get(l)) {
                        greatest = Math.max(greatest, urgency(s));
                    }
                }
            }
            return greatest;
        }

        int waitingOn(int t) {
            int threads = 0;
            for (int l = 0; l < 5; l++) {
                if (holder[l] == t && thread(t)) {
                    for (int s : queues.get(l)) {
                        threads |= (1 << s) | waitingOn(s);
                    }
                }
            }
            return threads;
        }

        int take(int t, int l) {
            if (!thread(t) || !lock(l) || waitsFor(t) >= 0 || holder[l] == t) {
                return -1;
            }
            if (holder[l] < 0) {
                holder[l] = t;
                return 0;
            }
            if ((waitingOn(t) >> holder[l] & 1) == 1) {
                return -2;
            }
            queues.get(l).add(t);
            return 1;
        }

        int nextFor(int l) {
            int best = -1;
            if (lock(l)) {
                for (int s : queues.get(l)) {
                    if (best < 0 || urgency(s) > urgency(best)) {
                        best = s;
                    }
                }
            }
            return best;
        }

        int give(int t, int l) {
            if (!thread(t) || !lock(l) || waitsFor(t) >= 0 || holder[l] != t) {
                return -2;
            }
            holder[l] = nextFor(l);
            queues.get(l).remove((Integer) holder[l]);
            return holder[l];
        }

        int giveUp(int t) {
            int l = waitsFor(t);
            return l >= 0 && queues.get(l).remove((Integer) t) ? 1 : 0;
        }

        int setBase(int t, int u) {
            if (!thread(t) || u < 0 || u > 9) {
                return 0;
            }
            base[t] = u;
            return 1;
        }

        int held(int t) {
            int locks = 0;
            for (int l = 0; l < 5; l++) {
                locks |= thread(t) && holder[l] == t ? 1 << l : 0;
            }
            return locks;
        }

        int running() {
            for (int u = 9; u >= 0; u--) {
                for (int t = 0; t < 6; t++) {
                    if (waitsFor(t) < 0 && urgency(t) == u) {
                        return t;
                    }
                }
            }
            return -1;
        }

        int lifted() {
            int threads = 0;
            for (int t = 0; t < 6; t++) {
                threads |= urgency(t) != base[t] ? 1 << t : 0;
            }
            return threads;
        }

        int answer(int kind, int a, int b) {
            switch (kind) {
                case 0: return take(a, b);
                case 1: return give(a, b);
                case 2: return giveUp(a);
                case 3: return setBase(a, b);
                case 4: return urgency(a);
                case 5: return thread(a) ? base[a] : -1;
                case 6: return lock(a) ? holder[a] : -1;
                case 7: return waitsFor(a);
                case 8: return lock(a) ? queues.get(a).size() : 0;
                case 9: return nextFor(a);
                case 10: return held(a);
                case 11: return running();
                case 12: return waitingOn(a);
                default: return lifted();
            }
        }
    }

    private static int answer(PriorityLocks x, int kind, int a, int b) {
        switch (kind) {
            case 0: return x.take(a, b);
            case 1: return x.give(a, b);
            case 2: return x.giveUp(a) ? 1 : 0;
            case 3: return x.setBase(a, b) ? 1 : 0;
            case 4: return x.urgency(a);
            case 5: return x.base(a);
            case 6: return x.holder(a);
            case 7: return x.waitsFor(a);
            case 8: return x.waiting(a);
            case 9: return x.nextFor(a);
            case 10: return x.held(a);
            case 11: return x.running();
            case 12: return x.waitingOn(a);
            default: return x.lifted();
        }
    }

    /** A fixed sequence, so that every run of the test makes the same calls. */
    private static int draw(int bound) {
        seed = seed * 6364136223846793005L + 1442695040888963407L;
        return (int) ((seed >>> 33) % bound);
    }

    /** Mostly 0 .. bound, now and then a little or far outside. */
    private static int argument(int bound) {
        int way = draw(40);
        if (way == 0) {
            return draw(2) == 0 ? Integer.MIN_VALUE : Integer.MAX_VALUE;
        }
        return way == 1 ? draw(bound + 5) - 2 : draw(bound + 1);
    }

    private static int lockArgument(Model model, int kind, int t) {
        // A give with free choice would seldom name a lock that the thread holds.
        if (kind == 1 && draw(3) > 0) {
            for (int l = 0; l < 5; l++) {
                if (model.held(t) >> l == 1) {
                    return l;
                }
            }
        }
        return argument(4);
    }

    private static int drawKind(int takes) {
        int way = draw(100);
        if (way < takes) {
            return 0;
        }
        return way < takes + 12 ? 1 + draw(3) : draw(KINDS);
    }

    private static void run(int run) {
        PriorityLocks x = new PriorityLocks();
        Model model = new Model();
        StringBuilder told = new StringBuilder();
        // Some runs are crowded with waiters and rings, others leave locks free.
        int takes = 5 + draw(60);
        int greatestBase = draw(2) == 0 ? 9 : 1;
        for (int call = 0; call < CALLS; call++) {
            int kind = drawKind(takes);
            boolean ofLock = kind == 6 || kind == 8 || kind == 9;
            int a = argument(ofLock ? 4 : 5);
            int b = kind == 3 ? argument(greatestBase) : lockArgument(model, kind, a);
            int want = model.answer(kind, a, b);
            int got = answer(x, kind, a, b);
            told.append(" " + kind + "(" + a + "," + b + ")=" + got);
            if (got != want) {
                wrong++;
                if (wrong <= SHOWN) {
                    System.out.println("run " + run + ", due is " + want + " at the end of" + told);
                }
                return;
            }
        }
    }

    /** After the 512th call the answers are free, but no call may throw or fail to end. */
    private static void useFarTooLong() {
        PriorityLocks x = new PriorityLocks();
        for (int call = 0; call < 200000; call++) {
            answer(x, draw(KINDS), argument(5), argument(5));
        }
    }

    public static void main(String[] args) {
        for (int run = 1; run <= RUNS; run++) {
            run(run);
        }
        useFarTooLong();
        System.out.println(wrong == 0 ? "all answers are as due" : wrong + " runs are not as due");
        if (wrong != 0) {
            System.exit(1);
        }
    }
}
