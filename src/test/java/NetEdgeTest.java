/** The sentences of promises 5 to 12 that name a boundary case, each with a test of its own. */
public final class NetEdgeTest {
    private static final Check CHECK = new Check("NetEdgeTest");
    private static final int[] NO_REPLICA = {-1, 5, Integer.MIN_VALUE, Integer.MAX_VALUE};

    public static void main(String[] args) {
        deliver();
        dropAndCopy();
        crashAndRestart();
        cut();
        fetch();
        waiting();
        CHECK.end();
    }

    private static void deliver() {
        deliverNoMessage();
        deliverTheIth();
        deliverToOneThatIsDown();
        deliverCountsWhatWasNotLost();
    }

    private static void dropAndCopy() {
        dropNoMessage();
        dropTheIth();
        copyNoMessage();
        copyWhen32Wait();
        copyGoesToTheEnd();
    }

    private static void crashAndRestart() {
        crashOfNoReplica();
        crashOfOneThatIsDown();
        crashLosesAtOnce();
        restartOfNoReplica();
        restartOfOneThatIsUp();
    }

    private static void cut() {
        cutOfNoReplica();
        cutOfOneThatIsDown();
        cutOfNothing();
        cutCountsVotesUpToExecuted();
        cutOfAllSlots();
    }

    private static void fetch() {
        fetchOfNoReplica();
        fetchFromItself();
        fetchByOneThatIsDown();
        fetchWhen32Wait();
        fetchFromOneThatIsDown();
    }

    /** Promise 5: "-1 if there is no such message" */
    private static void deliverNoMessage() {
        MajorityMap x = new MajorityMap();
        CHECK.due("an empty net", x.deliver(0), -1);
        x.timer(0);
        for (int i : new int[] {-1, 2, 31, 32, Integer.MIN_VALUE, Integer.MAX_VALUE}) {
            CHECK.due("message " + i + " of two", x.deliver(i), -1);
        }
        CHECK.due("both wait", x.waiting(), 2);
        Play.dropAll(x);
        Play.fillNet(x, 0, 1);
        CHECK.due("message 32 of 32", x.deliver(32), -1);
        CHECK.due("message 31 of 32", x.deliver(31), 0);
    }

    /** Promise 5: "The i-th waiting message (0 is the oldest) is taken out of the net" */
    private static void deliverTheIth() {
        for (int i = 0; i < 3; i++) {
            MajorityMap x = new MajorityMap();
            x.timer(4);
            CHECK.due("message " + i, x.deliver(i), 1);
            for (int r = 0; r < 3; r++) {
                CHECK.due("PROMISED of " + r, x.look(r, 1), r == i ? 9 : 0);
            }
            CHECK.due("the oldest then", x.message(0, 2), i == 0 ? 1 : 0);
            CHECK.due("the next", x.message(1, 2), i == 2 ? 1 : 2);
            CHECK.due("the newest is the answer", x.message(2, 0), Play.PROMISE);
        }
    }

    /** Promise 5: "-2 if the receiver is down (the message is gone)" */
    private static void deliverToOneThatIsDown() {
        MajorityMap x = new MajorityMap();
        x.timer(0);
        x.crash(2);
        CHECK.due("down", x.deliver(1), -2);
        CHECK.due("the message is gone", x.waiting(), 1);
        CHECK.due("the other one waits", x.message(0, 2), 1);
        x.restart(2);
        CHECK.due("it did nothing", x.look(2, 1), 0);
        x.crash(0);
        CHECK.due("a sender may be down", x.deliver(0), 1);
    }

    /** Promise 5: "The answer is how many messages were put into the net by that (not those lost)" */
    private static void deliverCountsWhatWasNotLost() {
        for (int free = 0; free <= 4; free++) {
            MajorityMap x = Play.proposing(1);
            Play.deliver(x, Play.ACCEPT, 0, 1);
            x.drop(0);
            for (int n = 0; n < 31 - free; n++) {
                x.fetch(3, 4);
            }
            int places = free + 1;
            CHECK.due("a VOTED waits at the front", x.message(0, 0), Play.VOTED);
            CHECK.due(places + " places for four LEARN", x.deliver(0), Math.min(places, 4));
            CHECK.due("it goes on in any case", x.look(0, 3), 1);
        }
    }

    /** Promise 6: "false if there is none" */
    private static void dropNoMessage() {
        MajorityMap x = new MajorityMap();
        CHECK.due("an empty net", x.drop(0), false);
        x.timer(0);
        for (int i : new int[] {-1, 2, 31, 32, Integer.MIN_VALUE, Integer.MAX_VALUE}) {
            CHECK.due("message " + i + " of two", x.drop(i), false);
        }
        CHECK.due("both wait", x.waiting(), 2);
        Play.dropAll(x);
        Play.fillNet(x, 0, 1);
        CHECK.due("message 32 of 32", x.drop(32), false);
        CHECK.due("message 31 of 32", x.drop(31), true);
        CHECK.due("31 wait", x.waiting(), 31);
    }

    /** Promise 6: "The i-th waiting message is taken out of the net: true" */
    private static void dropTheIth() {
        for (int i = 0; i < 3; i++) {
            MajorityMap x = new MajorityMap();
            x.timer(4);
            CHECK.due("message " + i, x.drop(i), true);
            CHECK.due("two wait", x.waiting(), 2);
            CHECK.due("the oldest then", x.message(0, 2), i == 0 ? 1 : 0);
            CHECK.due("the newest", x.message(1, 2), i == 2 ? 1 : 2);
            CHECK.due("nobody got it", x.look(i, 1), 0);
        }
    }

    /** Promise 7: "false if there is none" */
    private static void copyNoMessage() {
        MajorityMap x = new MajorityMap();
        CHECK.due("an empty net", x.copy(0), false);
        x.timer(0);
        for (int i : new int[] {-1, 2, 31, 32, Integer.MIN_VALUE, Integer.MAX_VALUE}) {
            CHECK.due("message " + i + " of two", x.copy(i), false);
        }
        CHECK.due("two wait", x.waiting(), 2);
    }

    /** Promise 7: "or 32 wait" */
    private static void copyWhen32Wait() {
        MajorityMap x = new MajorityMap();
        Play.fillNet(x, 0, 1);
        CHECK.due("the oldest of 32", x.copy(0), false);
        CHECK.due("the newest of 32", x.copy(31), false);
        CHECK.due("32 wait", x.waiting(), 32);
        x.drop(7);
        CHECK.due("the newest of 31", x.copy(30), true);
        CHECK.due("32 wait again", x.waiting(), 32);
    }

    /** Promise 7: "The i-th waiting message is put a second time at the net's end: true" */
    private static void copyGoesToTheEnd() {
        for (int i = 0; i < 3; i++) {
            MajorityMap x = new MajorityMap();
            x.timer(4);
            CHECK.due("message " + i, x.copy(i), true);
            for (int n = 0; n < 3; n++) {
                Play.dueMessage(CHECK, "where it was", x, n, Play.PREPARE, 4, n, 9, 0, 0);
            }
            Play.dueMessage(CHECK, "the copy", x, 3, Play.PREPARE, 4, i, 9, 0, 0);
            CHECK.due("it is delivered", x.deliver(3), 1);
            CHECK.due("and the first as well", x.deliver(i), 1);
        }
    }

    /** Promise 8: "false if there is no replica r" */
    private static void crashOfNoReplica() {
        MajorityMap x = new MajorityMap();
        for (int r : NO_REPLICA) {
            CHECK.due("replica " + r, x.crash(r), false);
        }
        for (int r = 0; r < 5; r++) {
            CHECK.due("all are up", x.look(r, 0), 1);
        }
        CHECK.due("replica 0", x.crash(0), true);
        CHECK.due("replica 4", x.crash(4), true);
    }

    /** Promise 8: "false if [..] it is down" */
    private static void crashOfOneThatIsDown() {
        MajorityMap x = new MajorityMap();
        CHECK.due("up", x.crash(2), true);
        CHECK.due("down", x.crash(2), false);
        CHECK.due("it is still down", x.look(2, 0), 0);
        x.restart(2);
        CHECK.due("up again", x.crash(2), true);
    }

    /** Promise 8: "its present state is its snapshot, EXECUTED is FLOOR, it has no campaign" */
    private static void crashLosesAtOnce() {
        MajorityMap x = Play.ledThrough(0, 1);
        x.cut(0);
        Play.perform(x, 0, Play.ADD, 0, 1);
        Play.dueLook(CHECK, "before", x, 0, 1, 5, 1, 2, 5, 1, 7, 7);
        x.crash(0);
        Play.dueLook(CHECK, "down", x, 0, 0, 5, 1, 1, 0, 0, 7, 0);
        CHECK.due("the value", x.value(0, 0), 1);
        x.restart(0);
        Play.dueLook(CHECK, "up again", x, 0, 1, 5, 1, 1, 0, 0, 7, 0);
        CHECK.due("what is done in the snapshot", x.send(1, 0), 1);
        CHECK.due("what is not", x.send(2, 0), 0);
    }

    /** Promise 9: "false if there is no replica r" */
    private static void restartOfNoReplica() {
        MajorityMap x = new MajorityMap();
        for (int r = 0; r < 5; r++) {
            x.crash(r);
        }
        for (int r : NO_REPLICA) {
            CHECK.due("replica " + r, x.restart(r), false);
        }
        for (int r = 0; r < 5; r++) {
            CHECK.due("all are down", x.look(r, 0), 0);
        }
        CHECK.due("replica 0", x.restart(0), true);
        CHECK.due("replica 4", x.restart(4), true);
        CHECK.due("replica 3 is down", x.look(3, 0), 0);
    }

    /** Promise 9: "or it is up" */
    private static void restartOfOneThatIsUp() {
        MajorityMap x = Play.ledThrough(0, 1);
        CHECK.due("up", x.restart(0), false);
        Play.dueLook(CHECK, "it goes on leading", x, 0, 1, 5, 0, 1, 5, 1, 7, 7);
        x.crash(0);
        CHECK.due("down", x.restart(0), true);
        CHECK.due("up again", x.restart(0), false);
    }

    /** Promise 10: "-1 if there is no replica r" */
    private static void cutOfNoReplica() {
        MajorityMap x = Play.ledThrough(0, 1);
        for (int r : NO_REPLICA) {
            CHECK.due("replica " + r, x.cut(r), -1);
        }
        for (int r = 0; r < 5; r++) {
            CHECK.due("FLOOR of " + r, x.look(r, 2), 0);
        }
        CHECK.due("replica 0", x.cut(0), 1);
        CHECK.due("replica 4", x.cut(4), 0);
    }

    /** Promise 10: "-1 if [..] it is down" */
    private static void cutOfOneThatIsDown() {
        MajorityMap x = Play.ledThrough(0, 1);
        x.crash(1);
        CHECK.due("down", x.cut(1), -1);
        CHECK.due("its vote stays", x.vote(1, 1), 64 * 5 + 1);
        x.restart(1);
        CHECK.due("up again, but with nothing executed", x.cut(1), 0);
        CHECK.due("its vote still stays", x.vote(1, 1), 64 * 5 + 1);
    }

    /** Promise 10: "FLOOR becomes EXECUTED", both 0, and a second time */
    private static void cutOfNothing() {
        MajorityMap x = new MajorityMap();
        CHECK.due("nothing is executed", x.cut(3), 0);
        CHECK.due("FLOOR", x.look(3, 2), 0);
        MajorityMap y = Play.ledThrough(0, 2);
        CHECK.due("two votes", y.cut(2), 2);
        CHECK.due("none is left", y.cut(2), 0);
        CHECK.due("FLOOR", y.look(2, 2), 2);
    }

    /** Promise 10: "votes [..] for slots up to there are forgotten. The answer is how many votes were forgotten" */
    private static void cutCountsVotesUpToExecuted() {
        MajorityMap x = Play.ledThrough(0, 2);
        x.send(x.ask(Play.ADD, 0, 1), 0);
        CHECK.due("slots 1 and 2, not slot 3", x.cut(0), 2);
        CHECK.due("slot e", x.vote(0, 2), 0);
        CHECK.due("slot e + 1", x.vote(0, 3), 64 * 5 + 3);
        CHECK.due("one that never voted", x.cut(3), 0);
        CHECK.due("its FLOOR", x.look(3, 2), 2);
    }

    /** Promise 10: "FLOOR becomes EXECUTED", both 24 */
    private static void cutOfAllSlots() {
        MajorityMap x = Play.ledThrough(0, 24);
        CHECK.due("all votes", x.cut(1), 24);
        CHECK.due("FLOOR", x.look(1, 2), 24);
        CHECK.due("the first", x.vote(1, 1), 0);
        CHECK.due("the last", x.vote(1, 24), 0);
        x.crash(1);
        CHECK.due("the snapshot", x.value(1, 0), 24);
    }

    /** Promise 11: "false if there is no replica r or p" */
    private static void fetchOfNoReplica() {
        MajorityMap x = new MajorityMap();
        for (int r : NO_REPLICA) {
            CHECK.due("by " + r, x.fetch(r, 0), false);
            CHECK.due("from " + r, x.fetch(0, r), false);
            CHECK.due("both " + r, x.fetch(r, r), false);
        }
        CHECK.due("nothing waits", x.waiting(), 0);
        CHECK.due("the first from the last", x.fetch(0, 4), true);
        CHECK.due("the last from the first", x.fetch(4, 0), true);
    }

    /** Promise 11: "r is p" */
    private static void fetchFromItself() {
        MajorityMap x = new MajorityMap();
        for (int r = 0; r < 5; r++) {
            CHECK.due("replica " + r, x.fetch(r, r), false);
        }
        CHECK.due("nothing waits", x.waiting(), 0);
    }

    /** Promise 11: "r is down" */
    private static void fetchByOneThatIsDown() {
        MajorityMap x = new MajorityMap();
        x.crash(2);
        CHECK.due("down", x.fetch(2, 3), false);
        CHECK.due("nothing waits", x.waiting(), 0);
        x.restart(2);
        CHECK.due("up", x.fetch(2, 3), true);
    }

    /** Promise 11: "or 32 wait" */
    private static void fetchWhen32Wait() {
        MajorityMap x = new MajorityMap();
        for (int n = 0; n < 31; n++) {
            x.fetch(0, 1);
        }
        CHECK.due("31 wait", x.fetch(2, 1), true);
        CHECK.due("32 wait", x.fetch(3, 1), false);
        CHECK.due("the newest", x.message(31, 1), 2);
        CHECK.due("waiting", x.waiting(), 32);
    }

    /** Promise 11: "(p may be down)" */
    private static void fetchFromOneThatIsDown() {
        MajorityMap x = new MajorityMap();
        x.crash(2);
        CHECK.due("down", x.fetch(3, 2), true);
        Play.dueMessage(CHECK, "fetch", x, 0, Play.FETCH, 3, 2, 0, 0, 0);
        CHECK.due("in vain", x.deliver(0), -2);
    }

    /** Promise 12: "How many messages wait.", none to 32 */
    private static void waiting() {
        MajorityMap x = new MajorityMap();
        for (int n = 0; n <= 32; n++) {
            CHECK.due("after " + n, x.waiting(), n);
            x.fetch(1, 2);
        }
        CHECK.due("after 33", x.waiting(), 32);
        for (int n = 31; n >= 0; n--) {
            x.drop(n / 2);
            CHECK.due("down to " + n, x.waiting(), n);
        }
        x.drop(0);
        CHECK.due("none", x.waiting(), 0);
    }
}
