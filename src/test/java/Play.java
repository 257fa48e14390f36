/**
 * Steps that many tests share. Kinds of requests and messages bear the document's names. The steps are sparing with
 * calls, since nothing is promised of an object after its 512th.
 */
final class Play {
    static final int READ = 0;
    static final int PUT = 1;
    static final int ADD = 2;
    static final int CLAIM = 3;
    static final int MEMBERS = 4;

    static final int PREPARE = 1;
    static final int PROMISE = 2;
    static final int ACCEPT = 3;
    static final int VOTED = 4;
    static final int LEARN = 5;
    static final int REFUSE = 6;
    static final int FETCH = 7;
    static final int STATE = 8;

    static final int[] FAR = {-1, Integer.MIN_VALUE, Integer.MAX_VALUE};

    private Play() {
    }

    /** Delivers the oldest message until none waits. */
    static void settle(MajorityMap x) {
        int answer = 0;
        for (int n = 0; n < 400 && answer != -1; n++) {
            answer = x.deliver(0);
        }
    }

    static void dropAll(MajorityMap x) {
        boolean isThere = true;
        for (int n = 0; n <= 32 && isThere; n++) {
            isThere = x.drop(0);
        }
    }

    static MajorityMap ledBy(int r) {
        MajorityMap x = new MajorityMap();
        x.timer(r);
        settle(x);
        return x;
    }

    /** A leader under whom that many requests of ADD 1 to key 0 have been executed everywhere. */
    static MajorityMap ledThrough(int leader, int slots) {
        MajorityMap x = ledBy(leader);
        for (int s = 1; s <= slots; s++) {
            perform(x, leader, ADD, 0, 1);
        }
        return x;
    }

    /** Replica 0 leads with ballot 5, and that many requests of ADD q to key 0 are proposed for slots 1, 2, 3. */
    static MajorityMap proposing(int many) {
        MajorityMap x = ledBy(0);
        for (int q = 1; q <= many; q++) {
            x.ask(ADD, 0, q);
            x.send(q, 0);
        }
        return x;
    }

    /** Three slots are executed under replica 0, so that slots 4, 5 and 6 have that membership, and all have cut. */
    static MajorityMap ofMembership(int membership) {
        MajorityMap x = ledBy(0);
        perform(x, 0, MEMBERS, 0, membership);
        perform(x, 0, READ, 0, 0);
        perform(x, 0, READ, 0, 0);
        for (int r = 0; r < 5; r++) {
            x.cut(r);
        }
        return x;
    }

    /** The position of the oldest waiting message of that kind from one replica to the other; -1 if there is none. */
    static int find(MajorityMap x, int kind, int from, int to) {
        for (int i = 0; i < x.waiting(); i++) {
            if (x.message(i, 0) == kind && x.message(i, 1) == from && x.message(i, 2) == to) {
                return i;
            }
        }
        return -1;
    }

    /** The same, of the messages about one slot. */
    static int find(MajorityMap x, int kind, int from, int to, int slot) {
        for (int i = 0; i < x.waiting(); i++) {
            if (x.message(i, 0) == kind && x.message(i, 1) == from && x.message(i, 2) == to
                    && x.message(i, 3) == slot) {
                return i;
            }
        }
        return -1;
    }

    static int deliver(MajorityMap x, int kind, int from, int to) {
        return x.deliver(find(x, kind, from, to));
    }

    static int deliver(MajorityMap x, int kind, int from, int to, int slot) {
        return x.deliver(find(x, kind, from, to, slot));
    }

    /** Brings the proposal for a slot to one voter and its vote back; answers what the vote made the leader send. */
    static int collectVote(MajorityMap x, int leader, int voter, int slot) {
        deliver(x, ACCEPT, leader, voter, slot);
        return deliver(x, VOTED, voter, leader, slot);
    }

    /** Brings a waiting PREPARE to one replica and its PROMISE back; answers what the promise made the other send. */
    static int collectPromise(MajorityMap x, int leader, int promiser) {
        deliver(x, PREPARE, leader, promiser);
        return deliver(x, PROMISE, promiser, leader);
    }

    static void bounce(MajorityMap x, int r) {
        x.crash(r);
        x.restart(r);
    }

    /** Asks and brings a request through at its leader. */
    static int perform(MajorityMap x, int leader, int kind, int key, int v) {
        int q = x.ask(kind, key, v);
        x.send(q, leader);
        settle(x);
        return q;
    }

    static void fillNet(MajorityMap x, int from, int to) {
        for (int n = 0; n < 32; n++) {
            x.fetch(from, to);
        }
    }

    /** Kind, sender, receiver, number, load and command of one waiting message. */
    static void dueMessage(Check check, String what, MajorityMap x, int i, int... want) {
        for (int k = 0; k < want.length; k++) {
            check.due(what + ": message(" + i + ", " + k + ")", x.message(i, k), want[k]);
        }
    }

    static void dueNewest(Check check, String what, MajorityMap x, int... want) {
        dueMessage(check, what, x, x.waiting() - 1, want);
    }

    /** Up, PROMISED, FLOOR, EXECUTED, BALLOT, leads, membership and HEARD of one replica. */
    static void dueLook(Check check, String what, MajorityMap x, int r, int... want) {
        for (int k = 0; k < want.length; k++) {
            check.due(what + ": look(" + r + ", " + k + ")", x.look(r, k), want[k]);
        }
    }
}
