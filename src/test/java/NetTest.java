/** Promises 6, 7, 12 and 13. */
public final class NetTest {
    private static final Check CHECK = new Check("NetTest");

    public static void main(String[] args) {
        drop();
        copy();
        copyIntoAFullNet();
        copyKeepsItsLoad();
        waiting();
        messageOfEachKind();
        wrongMessages();
        CHECK.end();
    }

    private static MajorityMap threeFetches() {
        MajorityMap x = new MajorityMap();
        x.fetch(0, 1);
        x.fetch(0, 2);
        x.fetch(0, 3);
        return x;
    }

    private static void dueReceivers(String what, MajorityMap x, int... receivers) {
        CHECK.due(what + ": waiting()", x.waiting(), receivers.length);
        for (int i = 0; i < receivers.length; i++) {
            CHECK.due(what + ": receiver of " + i, x.message(i, 2), receivers[i]);
        }
    }

    private static void drop() {
        MajorityMap x = threeFetches();
        CHECK.due("behind the last", x.drop(3), false);
        for (int far : Play.FAR) {
            CHECK.due("drop(" + far + ")", x.drop(far), false);
        }
        dueReceivers("refused", x, 1, 2, 3);
        CHECK.due("the middle", x.drop(1), true);
        dueReceivers("middle", x, 1, 3);
        CHECK.due("the last", x.drop(1), true);
        dueReceivers("last", x, 1);
        CHECK.due("the first", x.drop(0), true);
        dueReceivers("first", x);
        CHECK.due("none", x.drop(0), false);
        x.timer(0);
        x.drop(0);
        CHECK.due("what is dropped does nothing", x.look(1, 1), 0);
    }

    private static void copy() {
        MajorityMap x = threeFetches();
        CHECK.due("behind the last", x.copy(3), false);
        for (int far : Play.FAR) {
            CHECK.due("copy(" + far + ")", x.copy(far), false);
        }
        CHECK.due("the middle", x.copy(1), true);
        dueReceivers("copied", x, 1, 2, 3, 2);
        x.drop(1);
        dueReceivers("the copy stays", x, 1, 3, 2);
        CHECK.due("an empty net", new MajorityMap().copy(0), false);
    }

    private static void copyIntoAFullNet() {
        MajorityMap x = new MajorityMap();
        x.timer(0);
        for (int n = 3; n <= 32; n++) {
            CHECK.due("copy " + n, x.copy(1), true);
        }
        CHECK.due("32 wait", x.copy(0), false);
        CHECK.due("waiting", x.waiting(), 32);
        CHECK.due("behind the last", x.message(32, 0), -1);
        CHECK.due("deliver behind the last", x.deliver(32), -1);
        CHECK.due("drop behind the last", x.drop(32), false);
        CHECK.due("the newest", x.message(31, 2), 2);
        x.drop(5);
        CHECK.due("a free place", x.copy(0), true);
        CHECK.due("the newest then", x.message(31, 2), 1);
    }

    private static void copyKeepsItsLoad() {
        MajorityMap x = Play.ledBy(0);
        x.crash(3);
        Play.perform(x, 0, Play.PUT, 0, 8);
        x.restart(3);
        x.fetch(3, 0);
        x.deliver(0);
        x.copy(0);
        x.drop(0);
        Play.dueMessage(CHECK, "copy", x, 0, Play.STATE, 0, 3, 1, 1, 0);
        x.deliver(0);
        CHECK.due("installed", x.value(3, 0), 8);
    }

    private static void waiting() {
        MajorityMap x = new MajorityMap();
        CHECK.due("none", x.waiting(), 0);
        x.timer(3);
        CHECK.due("three", x.waiting(), 3);
        x.deliver(0);
        CHECK.due("one out, one in", x.waiting(), 3);
        x.crash(1);
        x.deliver(0);
        CHECK.due("one is gone", x.waiting(), 2);
        CHECK.due("a crash takes nothing out", x.crash(3), true);
        CHECK.due("two", x.waiting(), 2);
    }

    private static void messageOfEachKind() {
        MajorityMap x = new MajorityMap();
        for (int v = 1; v <= 3; v++) {
            x.ask(Play.PUT, 0, v);
        }
        x.timer(0);
        Play.dueMessage(CHECK, "PREPARE", x, 0, Play.PREPARE, 0, 1, 5, 0, 0);
        Play.deliver(x, Play.PREPARE, 0, 1);
        Play.dueMessage(CHECK, "PROMISE", x, 1, Play.PROMISE, 1, 0, 5, 0, 0);
        Play.deliver(x, Play.PROMISE, 1, 0);
        Play.dropAll(x);
        x.send(3, 0);
        x.send(2, 0);
        Play.dueMessage(CHECK, "ACCEPT", x, 3, Play.ACCEPT, 0, 2, 2, 0, 2);
        Play.deliver(x, Play.ACCEPT, 0, 1, 1);
        Play.deliver(x, Play.ACCEPT, 0, 1, 2);
        Play.dueMessage(CHECK, "VOTED", x, 3, Play.VOTED, 1, 0, 2, 0, 0);
        Play.deliver(x, Play.VOTED, 1, 0, 1);
        Play.deliver(x, Play.VOTED, 1, 0, 2);
        Play.dueMessage(CHECK, "LEARN", x, 9, Play.LEARN, 0, 4, 2, 0, 2);
        x.drop(9);
        x.drop(5);
        Play.settle(x);
        x.fetch(4, 0);
        Play.dueMessage(CHECK, "FETCH of nothing", x, 0, Play.FETCH, 4, 0, 0, 0, 0);
        x.fetch(1, 4);
        Play.dueMessage(CHECK, "FETCH", x, 1, Play.FETCH, 1, 4, 2, 0, 0);
        x.deliver(0);
        Play.dueMessage(CHECK, "STATE", x, 1, Play.STATE, 0, 4, 2, 2, 0);
        Play.dropAll(x);
        x.timer(2);
        Play.deliver(x, Play.PREPARE, 2, 1);
        Play.dueMessage(CHECK, "PROMISE with votes", x, 1, Play.PROMISE, 1, 2, 7, 2, 0);
        x.timer(3);
        x.drop(Play.find(x, Play.PREPARE, 3, 0));
        x.timer(4);
        Play.deliver(x, Play.PREPARE, 4, 1);
        Play.deliver(x, Play.PREPARE, 3, 1);
        Play.dueMessage(CHECK, "REFUSE", x, x.waiting() - 1, Play.REFUSE, 1, 3, 9, 0, 0);
    }

    private static void wrongMessages() {
        MajorityMap x = new MajorityMap();
        CHECK.due("an empty net", x.message(0, 0), -1);
        x.timer(0);
        CHECK.due("behind the last", x.message(2, 0), -1);
        CHECK.due("k = 6", x.message(0, 6), -1);
        for (int far : Play.FAR) {
            CHECK.due("message(" + far + ", 0)", x.message(far, 0), -1);
            CHECK.due("message(0, " + far + ")", x.message(0, far), -1);
        }
        x.drop(1);
        CHECK.due("where one was", x.message(1, 0), -1);
    }
}
