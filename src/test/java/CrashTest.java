/** Promises 8 and 9. */
public final class CrashTest {
    private static final Check CHECK = new Check("CrashTest");

    public static void main(String[] args) {
        wrongReplicas();
        whatIsLost();
        whatIsKept();
        knownIsLost();
        lastSlotIsLostAndKept();
        snapshotIsGoneBackTo();
        restart();
        CHECK.end();
    }

    private static void wrongReplicas() {
        MajorityMap x = new MajorityMap();
        for (int far : Play.FAR) {
            CHECK.due("crash(" + far + ")", x.crash(far), false);
            CHECK.due("restart(" + far + ")", x.restart(far), false);
        }
        CHECK.due("crash(5)", x.crash(5), false);
        CHECK.due("restart(5)", x.restart(5), false);
        for (int r = 0; r < 5; r++) {
            CHECK.due("restart of one that is up", x.restart(r), false);
            CHECK.due("crash(" + r + ")", x.crash(r), true);
            CHECK.due("down", x.look(r, 0), 0);
            CHECK.due("crash again", x.crash(r), false);
            CHECK.due("still down", x.look(r, 0), 0);
        }
        for (int r = 0; r < 5; r++) {
            CHECK.due("restart(" + r + ")", x.restart(r), true);
            CHECK.due("up", x.look(r, 0), 1);
            CHECK.due("restart again", x.restart(r), false);
        }
    }

    private static void whatIsLost() {
        MajorityMap x = Play.ledBy(0);
        int q = Play.perform(x, 0, Play.PUT, 0, 4);
        Play.dueLook(CHECK, "before", x, 0, 1, 5, 0, 1, 5, 1, 7, 7);
        x.crash(0);
        Play.dueLook(CHECK, "after", x, 0, 0, 5, 0, 0, 0, 0, 7, 0);
        CHECK.due("value", x.value(0, 0), 0);
        CHECK.due("what the client heard stays", x.heard(q), 1);
        x.restart(0);
        Play.dueLook(CHECK, "again", x, 0, 1, 5, 0, 0, 0, 0, 7, 0);
        CHECK.due("not done there", x.send(q, 0), 0);
    }

    private static void whatIsKept() {
        MajorityMap x = Play.ledBy(0);
        int q = Play.perform(x, 0, Play.PUT, 0, 4);
        x.crash(2);
        CHECK.due("the vote of one that is down", x.vote(2, 1), 64 * 5 + q);
        CHECK.due("PROMISED of one that is down", x.look(2, 1), 5);
        x.restart(2);
        CHECK.due("the vote", x.vote(2, 1), 64 * 5 + q);
        x.timer(2);
        CHECK.due("the ballot is above PROMISED", x.look(2, 4), 7);
        x.crash(2);
        x.restart(2);
        x.timer(2);
        CHECK.due("and above its last one", x.look(2, 4), 12);
    }

    private static void knownIsLost() {
        MajorityMap x = Play.ledBy(0);
        x.ask(Play.ADD, 0, 1);
        x.ask(Play.ADD, 0, 2);
        x.send(1, 0);
        x.send(2, 0);
        for (int s = 1; s <= 2; s++) {
            Play.deliver(x, Play.ACCEPT, 0, 1, s);
            Play.deliver(x, Play.VOTED, 1, 0, s);
        }
        Play.deliver(x, Play.LEARN, 0, 3, 2);
        x.crash(3);
        x.restart(3);
        Play.deliver(x, Play.LEARN, 0, 3, 1);
        CHECK.due("slot 2 is not known any more", x.look(3, 3), 1);
        CHECK.due("value", x.value(3, 0), 1);
    }

    /** Slot 24 is known and voted for before slot 23 is: a crash takes what is known of it and leaves the votes. */
    private static void lastSlotIsLostAndKept() {
        MajorityMap x = Play.ledBy(0);
        for (int q = 1; q <= 22; q++) {
            Play.perform(x, 0, Play.ADD, 0, 1);
        }
        int a = x.ask(Play.ADD, 0, 100);
        int b = x.ask(Play.ADD, 0, 1000);
        x.cut(3);
        x.send(a, 0);
        x.send(b, 0);
        Play.deliver(x, Play.ACCEPT, 0, 1, 24);
        Play.deliver(x, Play.VOTED, 1, 0);
        Play.deliver(x, Play.LEARN, 0, 3, 24);
        x.crash(3);
        x.restart(3);
        Play.dropAll(x);
        x.crash(0);
        x.restart(0);
        x.cut(2);
        x.timer(2);
        Play.deliver(x, Play.PREPARE, 2, 1);
        CHECK.due("all votes of replica 1", x.message(x.waiting() - 1, 4), 23);
        CHECK.due("slots 23 and 24 are proposed for", Play.deliver(x, Play.PROMISE, 1, 2), 4);
        CHECK.due("slot 23", x.vote(2, 23), 64 * 7);
        CHECK.due("slot 24", x.vote(2, 24), 64 * 7 + b);
        Play.deliver(x, Play.ACCEPT, 2, 1, 23);
        Play.deliver(x, Play.VOTED, 1, 2);
        Play.deliver(x, Play.LEARN, 2, 3, 23);
        CHECK.due("slot 24 is not known at replica 3 any more", x.look(3, 3), 23);
        x.crash(2);
        x.restart(2);
        Play.dropAll(x);
        x.timer(2);
        CHECK.due("nothing is proposed at a new campaign", x.timer(2), 2);
    }

    private static void snapshotIsGoneBackTo() {
        MajorityMap x = Play.ledBy(0);
        Play.perform(x, 0, Play.MEMBERS, 0, 15);
        Play.perform(x, 0, Play.PUT, 0, 4);
        x.cut(0);
        Play.perform(x, 0, Play.MEMBERS, 0, 31);
        Play.perform(x, 0, Play.PUT, 0, 5);
        Play.dueLook(CHECK, "before", x, 0, 1, 5, 2, 4, 5, 1, 15);
        x.crash(0);
        Play.dueLook(CHECK, "after", x, 0, 0, 5, 2, 2, 0, 0, 7);
        CHECK.due("value", x.value(0, 0), 4);
        x.restart(0);
        CHECK.due("votes above FLOOR stay", x.vote(0, 3) % 64, 3);
        CHECK.due("what slot 4 did is forgotten", x.send(4, 0), 0);
        CHECK.due("what slot 2 did is not", x.send(2, 0), 1);
        x.timer(0);
        CHECK.due("helpers of slots 3, 4 and 5", x.waiting(), 3);
    }

    private static void restart() {
        MajorityMap x = new MajorityMap();
        x.crash(1);
        x.timer(0);
        CHECK.due("down", x.deliver(0), -2);
        x.restart(1);
        x.timer(0);
        CHECK.due("up", Play.deliver(x, Play.PREPARE, 0, 1), 1);
        CHECK.due("its clock", x.timer(1), 2);
    }
}
