/**
 * Steps that many tests share. Kinds of requests and messages bear the document's names. The steps are sparing with
 * calls, since nothing is promised of an object after its 512th.
 */
final class Play {
    static final int READ = 0;
    static final int PUT = 1;
    static final int ADD = 2;
    static final int CLAIM = 3;
    static final int MEMBERS = 4;

    static final int PREPARE = 1;
    static final int PROMISE = 2;
    static final int ACCEPT = 3;
    static final int VOTED = 4;
    static final int LEARN = 5;
    static final int REFUSE = 6;
    static final int FETCH = 7;
    static final int STATE = 8;

    static final int[] FAR = {-1, Integer.MIN_VALUE, Integer.MAX_VALUE};

    private Play() {
    }

    /** Delivers the oldest message until none waits. */
    static void settle(MajorityMap x) {
        int answer = 0;
        for (int n = 0; n < 400 && answer != -1; n++) {
            answer = x.deliver(0);
        }
    }

    static void dropAll(MajorityMap x) {
        boolean isThere = true;
        for (int n = 0; n <= 32 && isThere; n++) {
            isThere = x.drop(0);
        }
    }

    static MajorityMap ledBy(int r) {
        MajorityMap x = new MajorityMap();
        x.timer(r);
        settle(x);
        return x;
    }

    /** The position of the oldest waiting message of that kind from one replica to the other; -1 if there is none. */
    static int find(MajorityMap x, int kind, int from, int to) {
        for (int i = 0; i < x.waiting(); i++) {
            if (x.message(i, 0) == kind && x.message(i, 1) == from && x.message(i, 2) == to) {
                return i;
            }
        }
        return -1;
    }

    static int deliver(MajorityMap x, int kind, int from, int to) {
        return x.deliver(find(x, kind, from, to));
    }

    /** The same, of the messages about one slot. */
    static int deliver(MajorityMap x, int kind, int from, int to, int slot) {
        for (int i = 0; i < x.waiting(); i++) {
            if (x.message(i, 0) == kind && x.message(i, 1) == from && x.message(i, 2) == to
                    && x.message(i, 3) == slot) {
                return x.deliver(i);
            }
        }
        return -1;
    }

    /** Asks and brings a request through at its leader. */
    static int perform(MajorityMap x, int leader, int kind, int key, int v) {
        int q = x.ask(kind, key, v);
        x.send(q, leader);
        settle(x);
        return q;
    }

    static void fillNet(MajorityMap x, int from, int to) {
        for (int n = 0; n < 32; n++) {
            x.fetch(from, to);
        }
    }

    /** Kind, sender, receiver, number, load and command of one waiting message. */
    static void dueMessage(Check check, String what, MajorityMap x, int i, int... want) {
        for (int k = 0; k < want.length; k++) {
            check.due(what + ": message(" + i + ", " + k + ")", x.message(i, k), want[k]);
        }
    }

    /** Up, PROMISED, FLOOR, EXECUTED, BALLOT, leads, membership and HEARD of one replica. */
    static void dueLook(Check check, String what, MajorityMap x, int r, int... want) {
        for (int k = 0; k < want.length; k++) {
            check.due(what + ": look(" + r + ", " + k + ")", x.look(r, k), want[k]);
        }
    }
}
