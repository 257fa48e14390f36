/** Promises 17 and 18. */
public final class ReplyTest {
    private static final Check CHECK = new Check("ReplyTest");

    public static void main(String[] args) {
        wrongRequests();
        nothingHeardYet();
        heardAgain();
        hearsOfEachSlot();
        CHECK.end();
    }

    private static void wrongRequests() {
        MajorityMap x = Play.ledBy(0);
        Play.perform(x, 0, Play.ADD, 0, 6);
        for (int far : Play.FAR) {
            CHECK.due("reply(" + far + ")", x.reply(far), 0);
            CHECK.due("heard(" + far + ")", x.heard(far), 0);
        }
        for (int q : new int[] {0, 2, 40, 41}) {
            CHECK.due("reply(" + q + ")", x.reply(q), 0);
            CHECK.due("heard(" + q + ")", x.heard(q), 0);
        }
        CHECK.due("reply(1)", x.reply(1), 6);
    }

    private static void nothingHeardYet() {
        MajorityMap x = Play.ledBy(0);
        int q = x.ask(Play.ADD, 0, 6);
        x.send(q, 0);
        CHECK.due("reply", x.reply(q), 0);
        CHECK.due("heard", x.heard(q), 0);
    }

    private static void heardAgain() {
        MajorityMap x = Play.ledBy(0);
        int q = Play.perform(x, 0, Play.ADD, 0, 6);
        int p = Play.perform(x, 0, Play.ADD, 0, 7);
        for (int r = 0; r < 5; r++) {
            CHECK.due("send to " + r, x.send(q, r), 1);
            CHECK.due("heard", x.heard(q), 2 + r);
            CHECK.due("the same answer", x.reply(q), 6);
        }
        CHECK.due("another request", x.heard(p), 1);
        CHECK.due("its answer", x.reply(p), 13);
    }

    /** Request 1 is voted for in slot 1 by replica 1 and in slot 2 by replica 0, and both votes are found again. */
    private static void hearsOfEachSlot() {
        MajorityMap x = Play.ledBy(0);
        x.ask(Play.ADD, 0, 5);
        x.ask(Play.ADD, 0, 100);
        x.send(2, 0);
        x.send(1, 0);
        Play.dropAll(x);
        x.timer(1);
        Play.deliver(x, Play.PREPARE, 1, 2);
        Play.deliver(x, Play.PROMISE, 2, 1);
        x.send(1, 1);
        Play.dropAll(x);
        x.crash(1);
        x.restart(1);
        x.crash(0);
        x.restart(0);
        x.timer(0);
        Play.deliver(x, Play.PREPARE, 0, 1);
        CHECK.due("both slots", Play.deliver(x, Play.PROMISE, 1, 0), 4);
        CHECK.due("slot 1", x.vote(0, 1), 64 * 10 + 1);
        CHECK.due("slot 2", x.vote(0, 2), 64 * 10 + 1);
        Play.settle(x);
        CHECK.due("executed", x.look(0, 3), 2);
        CHECK.due("done once", x.value(0, 0), 5);
        CHECK.due("heard for each slot", x.heard(1), 2);
        CHECK.due("with the first answer", x.reply(1), 5);
        x.crash(4);
        x.restart(4);
        x.fetch(4, 0);
        Play.deliver(x, Play.FETCH, 4, 0);
        CHECK.due("one request is done in the state", x.message(Play.find(x, Play.STATE, 0, 4), 4), 1);
    }
}
