/** Promises 14, 15 and 16. */
public final class LookTest {
    private static final Check CHECK = new Check("LookTest");

    public static void main(String[] args) {
        wrongArguments();
        look();
        leadershipIsOfTheNextSlot();
        value();
        vote();
        lastSlot();
        CHECK.end();
    }

    private static void wrongArguments() {
        MajorityMap x = Play.ledBy(0);
        Play.perform(x, 0, Play.PUT, 0, 3);
        for (int far : Play.FAR) {
            CHECK.due("look(" + far + ", 0)", x.look(far, 0), -1);
            CHECK.due("look(0, " + far + ")", x.look(0, far), -1);
            CHECK.due("value(" + far + ", 0)", x.value(far, 0), 0);
            CHECK.due("value(0, " + far + ")", x.value(0, far), 0);
            CHECK.due("vote(" + far + ", 1)", x.vote(far, 1), -1);
            CHECK.due("vote(0, " + far + ")", x.vote(0, far), -1);
        }
        CHECK.due("look(5, 0)", x.look(5, 0), -1);
        CHECK.due("look(0, 8)", x.look(0, 8), -1);
        CHECK.due("value(5, 0)", x.value(5, 0), 0);
        CHECK.due("value(0, 4)", x.value(0, 4), 0);
        CHECK.due("vote(5, 1)", x.vote(5, 1), -1);
        CHECK.due("vote(0, 0)", x.vote(0, 0), -1);
        CHECK.due("vote(0, 25)", x.vote(0, 25), -1);
    }

    private static void look() {
        MajorityMap x = new MajorityMap();
        x.timer(2);
        Play.dueLook(CHECK, "campaigns", x, 2, 1, 7, 0, 0, 7, 0, 7, 4);
        Play.deliver(x, Play.PREPARE, 2, 0);
        Play.deliver(x, Play.PROMISE, 0, 2);
        Play.dueLook(CHECK, "leads", x, 2, 1, 7, 0, 0, 7, 1, 7, 5);
        Play.dueLook(CHECK, "promised", x, 0, 1, 7, 0, 0, 0, 0, 7, 0);
        Play.settle(x);
        Play.perform(x, 2, Play.PUT, 0, 1);
        Play.dueLook(CHECK, "executed", x, 2, 1, 7, 0, 1, 7, 1, 7, 7);
        x.cut(2);
        Play.dueLook(CHECK, "cut", x, 2, 1, 7, 1, 1, 7, 1, 7, 7);
        x.timer(4);
        Play.deliver(x, Play.PREPARE, 4, 2);
        Play.dueLook(CHECK, "over", x, 2, 1, 9, 1, 1, 0, 0, 7, 0);
    }

    private static void leadershipIsOfTheNextSlot() {
        MajorityMap x = Play.ledBy(0);
        Play.perform(x, 0, Play.MEMBERS, 0, 24);
        Play.perform(x, 0, Play.READ, 0, 0);
        CHECK.due("slot 3 is of 7", x.look(0, 5), 1);
        Play.perform(x, 0, Play.READ, 0, 0);
        CHECK.due("slot 4 is of 24", x.look(0, 5), 0);
        CHECK.due("it still campaigns", x.look(0, 4), 5);
        CHECK.due("HEARD", x.look(0, 7), 7);
        x.timer(0);
        x.deliver(0);
        Play.deliver(x, Play.PROMISE, 3, 0);
        CHECK.due("one of two is no majority", x.look(0, 5), 0);
        Play.settle(x);
        CHECK.due("two of two", x.look(0, 5), 1);
    }

    private static void value() {
        MajorityMap x = Play.ledBy(0);
        for (int key = 0; key < 4; key++) {
            Play.perform(x, 0, Play.PUT, key, 10 + key);
        }
        x.cut(1);
        Play.perform(x, 0, Play.PUT, 0, -1);
        x.crash(1);
        for (int key = 0; key < 4; key++) {
            CHECK.due("at the leader", x.value(0, key), key == 0 ? -1 : 10 + key);
            CHECK.due("the snapshot of one that is down", x.value(1, key), 10 + key);
        }
    }

    private static void vote() {
        MajorityMap x = Play.ledBy(4);
        for (int q = 1; q <= 40; q++) {
            x.ask(Play.ADD, 0, 1);
        }
        x.send(40, 4);
        Play.deliver(x, Play.ACCEPT, 4, 1);
        CHECK.due("vote", x.vote(1, 1), 64 * 9 + 40);
        CHECK.due("no vote in the next slot", x.vote(1, 2), 0);
        CHECK.due("none has replica 0", x.vote(0, 1), 0);
    }

    private static void lastSlot() {
        MajorityMap x = Play.ledBy(0);
        for (int q = 1; q <= 24; q++) {
            Play.perform(x, 0, q == 22 ? Play.MEMBERS : Play.ADD, 0, q == 22 ? 11 : 1);
        }
        Play.dueLook(CHECK, "the end", x, 0, 1, 5, 0, 24, 5, 1, 11, 7);
        CHECK.due("vote for 24", x.vote(0, 24), 64 * 5 + 24);
        CHECK.due("all votes", x.cut(0), 24);
        CHECK.due("the last is forgotten, too", x.vote(0, 24), 0);
        CHECK.due("helpers above the last slot", x.timer(0), 1);
        CHECK.due("the new member", x.message(0, 2), 3);
        CHECK.due("value", x.value(0, 0), 23);
    }
}
