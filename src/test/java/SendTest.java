/** Promise 3. */
public final class SendTest {
    private static final Check CHECK = new Check("SendTest");

    public static void main(String[] args) {
        wrongNumbers();
        downReplicas();
        doneRequests();
        noCampaign();
        knownOrProposed();
        knownWithoutProposal();
        proposedThoughTheSlotIsKnownOtherwise();
        proposedForASlotThatWentToAnother();
        windowIsFull();
        noMajority();
        laterSlotWithoutMajority();
        slotsAreUsedUp();
        fillsTheLeastFreeSlot();
        proposes();
        proposesOutsideTheMembership();
        CHECK.end();
    }

    private static void wrongNumbers() {
        MajorityMap x = Play.ledBy(0);
        CHECK.due("no request yet", x.send(1, 0), -1);
        x.ask(Play.PUT, 0, 1);
        CHECK.due("request 0", x.send(0, 0), -1);
        CHECK.due("request 2", x.send(2, 0), -1);
        CHECK.due("replica 5", x.send(1, 5), -1);
        for (int far : Play.FAR) {
            CHECK.due("request " + far, x.send(far, 0), -1);
            CHECK.due("replica " + far, x.send(1, far), -1);
        }
        x.crash(1);
        CHECK.due("no request at one that is down", x.send(2, 1), -1);
        CHECK.due("nothing was sent", x.waiting(), 0);
    }

    private static void downReplicas() {
        MajorityMap x = Play.ledBy(0);
        int q = Play.perform(x, 0, Play.PUT, 0, 4);
        x.cut(0);
        x.crash(0);
        CHECK.due("down, although done in its snapshot", x.send(q, 0), 0);
        CHECK.due("heard", x.heard(q), 1);
        x.restart(0);
        CHECK.due("up again", x.send(q, 0), 1);
        CHECK.due("heard then", x.heard(q), 2);
    }

    private static void doneRequests() {
        MajorityMap x = Play.ledBy(0);
        int q = Play.perform(x, 0, Play.PUT, 0, 4);
        Play.perform(x, 0, Play.PUT, 0, 9);
        CHECK.due("at the leader", x.send(q, 0), 1);
        CHECK.due("at one that does not campaign", x.send(q, 3), 1);
        CHECK.due("the first answer", x.reply(q), 0);
        CHECK.due("heard", x.heard(q), 3);
        x.crash(2);
        x.restart(2);
        CHECK.due("at one that forgot", x.send(q, 2), 0);
        CHECK.due("nothing was sent", x.waiting(), 0);
    }

    private static void noCampaign() {
        MajorityMap x = Play.ledBy(0);
        int q = x.ask(Play.PUT, 0, 4);
        CHECK.due("at a follower", x.send(q, 1), 0);
        x.timer(1);
        Play.deliver(x, Play.PREPARE, 1, 0);
        CHECK.due("at one whose campaign is over", x.send(q, 0), 0);
        CHECK.due("heard", x.heard(q), 0);
    }

    private static void knownOrProposed() {
        MajorityMap x = Play.ledBy(0);
        int a = x.ask(Play.PUT, 0, 1);
        int b = x.ask(Play.PUT, 0, 2);
        int c = x.ask(Play.PUT, 0, 3);
        x.send(a, 0);
        x.send(b, 0);
        CHECK.due("proposed for slot 2", x.send(b, 0), 3);
        Play.deliver(x, Play.ACCEPT, 0, 1, 2);
        Play.deliver(x, Play.VOTED, 1, 0);
        CHECK.due("nothing is executed", x.look(0, 3), 0);
        CHECK.due("known for slot 2", x.send(b, 0), 3);
        CHECK.due("the third", x.send(c, 0), 2);
        CHECK.due("3 goes before 4", x.send(a, 0), 3);
        int waits = x.waiting();
        x.send(a, 0);
        CHECK.due("nothing was sent", x.waiting(), waits);
    }

    private static void knownWithoutProposal() {
        MajorityMap x = Play.ledBy(0);
        int a = x.ask(Play.PUT, 0, 1);
        int b = x.ask(Play.PUT, 0, 2);
        x.send(a, 0);
        x.send(b, 0);
        Play.deliver(x, Play.ACCEPT, 0, 1, 2);
        Play.deliver(x, Play.VOTED, 1, 0);
        Play.deliver(x, Play.LEARN, 0, 4, 2);
        CHECK.due("known, but no campaign", x.send(b, 4), 0);
        x.timer(4);
        CHECK.due("known at a new campaign", x.send(b, 4), 3);
        CHECK.due("unknown there", x.send(a, 4), 4);
    }

    /** A leader that has not heard of its successor learns another command for a slot that it proposed for. */
    private static void proposedThoughTheSlotIsKnownOtherwise() {
        MajorityMap x = Play.ledBy(0);
        int a = x.ask(Play.PUT, 0, 1);
        int b = x.ask(Play.PUT, 0, 2);
        int c = x.ask(Play.PUT, 0, 3);
        x.send(a, 0);
        x.send(b, 0);
        Play.dropAll(x);
        x.timer(1);
        Play.deliver(x, Play.PREPARE, 1, 2);
        Play.deliver(x, Play.PROMISE, 2, 1);
        x.send(c, 1);
        x.send(a, 1);
        Play.deliver(x, Play.ACCEPT, 1, 2, 2);
        Play.deliver(x, Play.VOTED, 2, 1);
        CHECK.due("it learns", Play.deliver(x, Play.LEARN, 1, 0, 2), 0);
        CHECK.due("it still campaigns", x.look(0, 4), 5);
        CHECK.due("what it proposed for slot 2", x.send(b, 0), 3);
    }

    private static void proposedForASlotThatWentToAnother() {
        MajorityMap x = Play.ledBy(0);
        int a = x.ask(Play.PUT, 0, 1);
        int b = x.ask(Play.PUT, 0, 2);
        x.send(a, 0);
        Play.dropAll(x);
        x.timer(1);
        Play.deliver(x, Play.PREPARE, 1, 2);
        Play.deliver(x, Play.PROMISE, 2, 1);
        x.send(b, 1);
        Play.deliver(x, Play.ACCEPT, 1, 2);
        Play.deliver(x, Play.VOTED, 2, 1);
        Play.deliver(x, Play.LEARN, 1, 0);
        CHECK.due("slot 1 is executed", x.look(0, 3), 1);
        CHECK.due("what was proposed for it counts no more", x.send(a, 0), 2);
        CHECK.due("slot 2", x.vote(0, 2), 64 * 5 + a);
    }

    private static void windowIsFull() {
        MajorityMap x = Play.ledBy(0);
        for (int q = 1; q <= 4; q++) {
            x.ask(Play.ADD, 0, q);
        }
        CHECK.due("slot 1", x.send(1, 0), 2);
        CHECK.due("slot 2", x.send(2, 0), 2);
        CHECK.due("slot 3", x.send(3, 0), 2);
        int waits = x.waiting();
        CHECK.due("slot 4", x.send(4, 0), 4);
        CHECK.due("nothing was sent", x.waiting(), waits);
        CHECK.due("nothing was voted", x.vote(0, 4), 0);
        Play.deliver(x, Play.ACCEPT, 0, 1, 1);
        Play.deliver(x, Play.VOTED, 1, 0, 1);
        CHECK.due("after slot 1 is executed", x.send(4, 0), 2);
        CHECK.due("it went to slot 4", x.vote(0, 4), 64 * 5 + 4);
    }

    private static void noMajority() {
        MajorityMap x = new MajorityMap();
        int q = x.ask(Play.PUT, 0, 1);
        x.timer(0);
        CHECK.due("only itself heard", x.send(q, 0), 4);
        CHECK.due("no vote", x.vote(0, 1), 0);
        x.timer(4);
        Play.deliver(x, Play.PREPARE, 4, 1);
        Play.deliver(x, Play.PROMISE, 1, 4);
        CHECK.due("HEARD has one member of three", x.send(q, 4), 4);
        Play.deliver(x, Play.PREPARE, 4, 2);
        Play.deliver(x, Play.PROMISE, 2, 4);
        CHECK.due("HEARD has two members of three", x.send(q, 4), 2);
    }

    private static void laterSlotWithoutMajority() {
        MajorityMap x = Play.ledBy(0);
        Play.perform(x, 0, Play.MEMBERS, 0, 28);
        for (int n = 0; n < 3; n++) {
            x.ask(Play.READ, 0, 0);
        }
        CHECK.due("slot 2 of 7", x.send(2, 0), 2);
        CHECK.due("slot 3 of 7", x.send(3, 0), 2);
        CHECK.due("it leads", x.look(0, 5), 1);
        CHECK.due("slot 4 of 28", x.send(4, 0), 4);
    }

    private static void slotsAreUsedUp() {
        MajorityMap x = Play.ledBy(0);
        for (int q = 1; q <= 22; q++) {
            Play.perform(x, 0, Play.ADD, 0, 1);
        }
        for (int q = 23; q <= 26; q++) {
            x.ask(Play.ADD, 0, 1);
        }
        CHECK.due("slot 23", x.send(23, 0), 2);
        CHECK.due("slot 24", x.send(24, 0), 2);
        CHECK.due("slot 25", x.send(25, 0), 4);
        Play.settle(x);
        CHECK.due("all slots are executed", x.look(0, 3), 24);
        CHECK.due("none is left", x.send(25, 0), 4);
        CHECK.due("what is done is still told", x.send(24, 0), 1);
        CHECK.due("the answer", x.reply(24), 24);
        CHECK.due("it still leads", x.look(0, 5), 1);
        CHECK.due("its clock has nothing to send", x.timer(0), 0);
        CHECK.due("a clock finds helpers", x.timer(3), 3);
        Play.settle(x);
        CHECK.due("a new leader", x.look(3, 5), 1);
        CHECK.due("none is left there", x.send(26, 3), 4);
    }

    /** A slot that is known and one that is only proposed for are both passed over. */
    private static void fillsTheLeastFreeSlot() {
        MajorityMap x = Play.ledBy(0);
        for (int q = 1; q <= 4; q++) {
            x.ask(Play.ADD, 0, q);
        }
        x.send(1, 0);
        x.send(2, 0);
        Play.deliver(x, Play.ACCEPT, 0, 1, 2);
        Play.deliver(x, Play.VOTED, 1, 0);
        CHECK.due("slots 1 and 2 are taken", x.send(3, 0), 2);
        CHECK.due("so it is slot 3", x.vote(0, 3), 64 * 5 + 3);
        CHECK.due("and no more", x.send(4, 0), 4);
    }

    private static void proposes() {
        MajorityMap x = Play.ledBy(1);
        int q = x.ask(Play.PUT, 0, 1);
        CHECK.due("proposed", x.send(q, 1), 2);
        CHECK.due("its own vote", x.vote(1, 1), 64 * 6 + q);
        CHECK.due("two messages", x.waiting(), 2);
        Play.dueMessage(CHECK, "first", x, 0, Play.ACCEPT, 1, 0, 1, 0, q);
        Play.dueMessage(CHECK, "second", x, 1, Play.ACCEPT, 1, 2, 1, 0, q);
        CHECK.due("nothing heard yet", x.heard(q), 0);
    }

    private static void proposesOutsideTheMembership() {
        MajorityMap x = Play.ledBy(4);
        int q = x.ask(Play.PUT, 0, 1);
        CHECK.due("proposed", x.send(q, 4), 2);
        CHECK.due("no vote of its own", x.vote(4, 1), 0);
        CHECK.due("three messages", x.waiting(), 3);
        for (int to = 0; to < 3; to++) {
            Play.dueMessage(CHECK, "to " + to, x, to, Play.ACCEPT, 4, to, 1, 0, q);
        }
        Play.deliver(x, Play.ACCEPT, 4, 0);
        CHECK.due("one vote is no majority", Play.deliver(x, Play.VOTED, 0, 4), 0);
        Play.deliver(x, Play.ACCEPT, 4, 1);
        CHECK.due("two are", Play.deliver(x, Play.VOTED, 1, 4), 4);
        CHECK.due("heard", x.heard(q), 1);
    }
}
