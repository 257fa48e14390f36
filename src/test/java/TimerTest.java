/** Promise 4. */
public final class TimerTest {
    private static final Check CHECK = new Check("TimerTest");

    public static void main(String[] args) {
        wrongReplicas();
        firstBallots();
        leastBallotAbovePromised();
        crashEndsACampaign();
        preparesForThoseNotHeard();
        helpersOfThreeSlots();
        helpersOfTheMiddleSlot();
        acceptsForThoseWhoHaveNotVoted();
        collectsItsOwnVotes();
        forgetsTheOldCampaign();
        forgetsWhatWasCollected();
        forgetsWhoVoted();
        countsWhatTheNetTook();
        CHECK.end();
    }

    private static void wrongReplicas() {
        MajorityMap x = new MajorityMap();
        for (int far : Play.FAR) {
            CHECK.due("timer(" + far + ")", x.timer(far), -1);
        }
        CHECK.due("timer(5)", x.timer(5), -1);
        x.crash(2);
        CHECK.due("one that is down", x.timer(2), -1);
        CHECK.due("its PROMISED", x.look(2, 1), 0);
        CHECK.due("nothing was sent", x.waiting(), 0);
    }

    private static void firstBallots() {
        for (int r = 0; r < 5; r++) {
            MajorityMap x = new MajorityMap();
            CHECK.due("timer(" + r + ")", x.timer(r), r < 3 ? 2 : 3);
            Play.dueLook(CHECK, "first ballot", x, r, 1, 5 + r, 0, 0, 5 + r, 0, 7, 1 << r);
            int i = 0;
            for (int to = 0; to < 3; to++) {
                if (to != r) {
                    Play.dueMessage(CHECK, "prepare", x, i, Play.PREPARE, r, to, 5 + r, 0, 0);
                    i++;
                }
            }
        }
    }

    private static void leastBallotAbovePromised() {
        for (int other = 0; other < 5; other++) {
            for (int r = 0; r < 3; r++) {
                if (r != other) {
                    MajorityMap x = new MajorityMap();
                    x.timer(other);
                    Play.deliver(x, Play.PREPARE, other, r);
                    CHECK.due("promised", x.look(r, 1), 5 + other);
                    x.timer(r);
                    CHECK.due("ballot of " + r + " above that of " + other, x.look(r, 4), r > other ? 5 + r : 10 + r);
                    CHECK.due("promised then", x.look(r, 1), r > other ? 5 + r : 10 + r);
                }
            }
        }
    }

    private static void crashEndsACampaign() {
        MajorityMap x = Play.ledBy(0);
        x.crash(0);
        x.restart(0);
        CHECK.due("no campaign", x.look(0, 4), 0);
        CHECK.due("a new one", x.timer(0), 2);
        CHECK.due("with a new ballot", x.look(0, 4), 10);
        CHECK.due("heard of itself alone", x.look(0, 7), 1);
    }

    private static void preparesForThoseNotHeard() {
        MajorityMap x = new MajorityMap();
        x.timer(0);
        CHECK.due("again to both", x.timer(0), 2);
        CHECK.due("the same ballot", x.look(0, 4), 5);
        Play.deliver(x, Play.PREPARE, 0, 1);
        Play.deliver(x, Play.PROMISE, 1, 0);
        Play.dropAll(x);
        CHECK.due("to the other one", x.timer(0), 1);
        Play.dueMessage(CHECK, "the other one", x, 0, Play.PREPARE, 0, 2, 5, 0, 0);
        Play.settle(x);
        CHECK.due("to none", x.timer(0), 0);
    }

    private static void helpersOfThreeSlots() {
        MajorityMap x = Play.ledBy(0);
        Play.perform(x, 0, Play.MEMBERS, 0, 24);
        CHECK.due("slots 2 and 3 are of 7, slot 4 of 24", x.timer(0), 2);
        Play.dueMessage(CHECK, "first", x, 0, Play.PREPARE, 0, 3, 5, 0, 0);
        Play.dueMessage(CHECK, "second", x, 1, Play.PREPARE, 0, 4, 5, 0, 0);
        Play.settle(x);
        CHECK.due("a new campaign asks all of them", x.timer(4), 4);
        Play.settle(x);
        Play.perform(x, 4, Play.READ, 0, 0);
        Play.perform(x, 4, Play.READ, 0, 0);
        CHECK.due("executed", x.look(4, 3), 3);
        CHECK.due("all slots ahead are of 24", x.look(4, 6), 24);
        CHECK.due("one that is no member", x.timer(2), 2);
        Play.dueMessage(CHECK, "first", x, 0, Play.PREPARE, 2, 3, 12, 0, 0);
        Play.dueMessage(CHECK, "second", x, 1, Play.PREPARE, 2, 4, 12, 0, 0);
    }

    private static void helpersOfTheMiddleSlot() {
        MajorityMap x = Play.ledBy(0);
        Play.perform(x, 0, Play.MEMBERS, 0, 24);
        Play.perform(x, 0, Play.MEMBERS, 0, 7);
        CHECK.due("slots 3 and 5 are of 7, slot 4 of 24", x.timer(0), 2);
        CHECK.due("first", x.message(0, 2), 3);
        CHECK.due("second", x.message(1, 2), 4);
        Play.settle(x);
        int a = x.ask(Play.READ, 0, 0);
        int b = x.ask(Play.READ, 0, 0);
        x.send(a, 0);
        Play.dropAll(x);
        x.send(b, 0);
        CHECK.due("slot 4 goes to two", x.waiting(), 2);
        CHECK.due("to 3", x.message(0, 2), 3);
        CHECK.due("to 4", x.message(1, 2), 4);
    }

    private static void acceptsForThoseWhoHaveNotVoted() {
        MajorityMap x = Play.ledBy(0);
        Play.perform(x, 0, Play.MEMBERS, 0, 31);
        Play.perform(x, 0, Play.READ, 0, 0);
        Play.perform(x, 0, Play.READ, 0, 0);
        x.timer(0);
        Play.settle(x);
        int a = x.ask(Play.READ, 0, 0);
        int b = x.ask(Play.READ, 0, 0);
        int c = x.ask(Play.READ, 0, 0);
        x.send(a, 0);
        x.send(b, 0);
        x.send(c, 0);
        CHECK.due("three slots, four others", x.waiting(), 12);
        Play.deliver(x, Play.ACCEPT, 0, 2, 4);
        Play.deliver(x, Play.VOTED, 2, 0, 4);
        Play.deliver(x, Play.ACCEPT, 0, 1, 5);
        Play.deliver(x, Play.ACCEPT, 0, 3, 5);
        Play.deliver(x, Play.VOTED, 1, 0, 5);
        CHECK.due("slot 5 is known", Play.deliver(x, Play.VOTED, 3, 0, 5), 4);
        Play.dropAll(x);
        CHECK.due("three for slot 4, none for 5, four for 6", x.timer(0), 7);
        int[] slots = {4, 4, 4, 6, 6, 6, 6};
        int[] receivers = {1, 3, 4, 1, 2, 3, 4};
        for (int i = 0; i < 7; i++) {
            Play.dueMessage(CHECK, "again", x, i, Play.ACCEPT, 0, receivers[i], slots[i], 0, slots[i] == 4 ? a : c);
        }
    }

    private static void collectsItsOwnVotes() {
        MajorityMap x = Play.ledBy(0);
        int q = x.ask(Play.PUT, 0, 3);
        x.send(q, 0);
        Play.dropAll(x);
        x.crash(0);
        x.restart(0);
        x.timer(0);
        Play.deliver(x, Play.PREPARE, 0, 1);
        CHECK.due("it proposes what it voted for", Play.deliver(x, Play.PROMISE, 1, 0), 2);
        Play.dueMessage(CHECK, "accept", x, 1, Play.ACCEPT, 0, 1, 1, 0, q);
        CHECK.due("with the new ballot", x.vote(0, 1), 64 * 10 + q);
    }

    private static void forgetsTheOldCampaign() {
        MajorityMap x = Play.ledBy(0);
        int a = x.ask(Play.PUT, 0, 3);
        x.send(a, 0);
        Play.deliver(x, Play.ACCEPT, 0, 1);
        Play.dropAll(x);
        x.timer(2);
        Play.deliver(x, Play.PREPARE, 2, 0);
        Play.dropAll(x);
        CHECK.due("its campaign is over", x.look(0, 4), 0);
        CHECK.due("a new one", x.timer(0), 2);
        Play.dueLook(CHECK, "new", x, 0, 1, 10, 0, 0, 10, 0, 7, 1);
        Play.dropAll(x);
        CHECK.due("nothing is proposed, so PREPARE alone", x.timer(0), 2);
        CHECK.due("the old proposal does not count", x.send(a, 0), 4);
    }

    /** Replica 1 tells its vote to a campaign of replica 4 that ends; the next one hears of replicas 0 and 2 alone. */
    private static void forgetsWhatWasCollected() {
        MajorityMap x = Play.ledBy(3);
        x.ask(Play.PUT, 0, 3);
        x.ask(Play.PUT, 0, 4);
        x.send(1, 3);
        Play.deliver(x, Play.ACCEPT, 3, 1);
        Play.dropAll(x);
        x.timer(4);
        Play.deliver(x, Play.PREPARE, 4, 1);
        CHECK.due("one vote is told", x.message(x.waiting() - 1, 4), 1);
        Play.deliver(x, Play.PROMISE, 1, 4);
        CHECK.due("HEARD of one member", x.look(4, 7), 18);
        x.crash(4);
        x.restart(4);
        Play.dropAll(x);
        x.timer(4);
        Play.deliver(x, Play.PREPARE, 4, 0);
        Play.deliver(x, Play.PREPARE, 4, 2);
        Play.deliver(x, Play.PROMISE, 0, 4);
        CHECK.due("nothing to propose", Play.deliver(x, Play.PROMISE, 2, 4), 0);
        CHECK.due("so another request goes to slot 1", x.send(2, 4), 2);
        CHECK.due("slot 1", x.message(x.waiting() - 1, 3), 1);
    }

    private static void forgetsWhoVoted() {
        MajorityMap x = Play.ledBy(4);
        x.ask(Play.PUT, 0, 3);
        x.send(1, 4);
        Play.deliver(x, Play.ACCEPT, 4, 1);
        CHECK.due("one vote", Play.deliver(x, Play.VOTED, 1, 4), 0);
        x.crash(4);
        x.restart(4);
        Play.dropAll(x);
        x.timer(4);
        Play.deliver(x, Play.PREPARE, 4, 1);
        Play.deliver(x, Play.PREPARE, 4, 2);
        Play.deliver(x, Play.PROMISE, 1, 4);
        CHECK.due("proposed again", Play.deliver(x, Play.PROMISE, 2, 4), 3);
        Play.deliver(x, Play.ACCEPT, 4, 2);
        CHECK.due("one vote again", Play.deliver(x, Play.VOTED, 2, 4), 0);
        CHECK.due("not executed", x.look(4, 3), 0);
        Play.dropAll(x);
        CHECK.due("PREPARE to 0, ACCEPT to 0 and 1", x.timer(4), 3);
    }

    private static void countsWhatTheNetTook() {
        MajorityMap x = new MajorityMap();
        Play.fillNet(x, 3, 4);
        CHECK.due("none fits", x.timer(0), 0);
        CHECK.due("the campaign began all the same", x.look(0, 4), 5);
        x.drop(0);
        CHECK.due("one fits", x.timer(0), 1);
        Play.dueMessage(CHECK, "the first", x, 31, Play.PREPARE, 0, 1, 5, 0, 0);
        CHECK.due("full", x.waiting(), 32);
    }
}
