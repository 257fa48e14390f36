/** Promise 5: taking a message out, PREPARE, PROMISE, REFUSE, FETCH and STATE. */
public final class DeliverTest {
    private static final Check CHECK = new Check("DeliverTest");

    public static void main(String[] args) {
        wrongPositions();
        receiverIsDown();
        takesOutTheOneNamed();
        prepareIsPromised();
        prepareIsRefused();
        promiseIsHeard();
        promiseOfAnotherBallot();
        promiseInstallsASnapshot();
        promiseCarriesWhatStoodThen();
        greaterVoteReplaces();
        lesserVoteDoesNotReplace();
        gapsAreFilledWithNothing();
        refuseRaisesPromised();
        fetchIsAnswered();
        stateIsInstalled();
        stateLetsKnownCommandsGoOn();
        stateIsOld();
        stateIsOldForOneThatNeverCut();
        replyFitsInAFullNet();
        CHECK.end();
    }

    private static void wrongPositions() {
        MajorityMap x = new MajorityMap();
        CHECK.due("an empty net", x.deliver(0), -1);
        x.timer(0);
        CHECK.due("behind the last", x.deliver(2), -1);
        for (int far : Play.FAR) {
            CHECK.due("deliver(" + far + ")", x.deliver(far), -1);
        }
        CHECK.due("both still wait", x.waiting(), 2);
    }

    private static void receiverIsDown() {
        MajorityMap x = new MajorityMap();
        x.timer(0);
        x.crash(1);
        CHECK.due("down", x.deliver(0), -2);
        CHECK.due("the message is gone", x.waiting(), 1);
        CHECK.due("it did nothing", x.look(1, 1), 0);
        CHECK.due("the sender may be down", x.crash(0), true);
        CHECK.due("and is answered", x.deliver(0), 1);
        CHECK.due("in vain", x.deliver(0), -2);
    }

    private static void takesOutTheOneNamed() {
        MajorityMap x = new MajorityMap();
        x.fetch(0, 1);
        x.fetch(0, 2);
        x.fetch(0, 3);
        CHECK.due("the middle one", x.deliver(1), 0);
        CHECK.due("two left", x.waiting(), 2);
        CHECK.due("the first", x.message(0, 2), 1);
        CHECK.due("the last", x.message(1, 2), 3);
    }

    private static void prepareIsPromised() {
        MajorityMap x = new MajorityMap();
        x.timer(3);
        CHECK.due("one answer", x.deliver(0), 1);
        CHECK.due("PROMISED", x.look(0, 1), 8);
        Play.dueMessage(CHECK, "promise", x, 2, Play.PROMISE, 0, 3, 8, 0, 0);
        x.timer(3);
        CHECK.due("the same ballot again", Play.deliver(x, Play.PREPARE, 3, 0), 1);
        CHECK.due("is promised again", x.message(x.waiting() - 1, 0), Play.PROMISE);
    }

    private static void prepareIsRefused() {
        MajorityMap x = new MajorityMap();
        x.timer(1);
        x.timer(2);
        Play.deliver(x, Play.PREPARE, 2, 0);
        CHECK.due("a lesser ballot", Play.deliver(x, Play.PREPARE, 1, 0), 1);
        CHECK.due("PROMISED", x.look(0, 1), 7);
        Play.dueMessage(CHECK, "refuse", x, x.waiting() - 1, Play.REFUSE, 0, 1, 7, 0, 0);
        Play.deliver(x, Play.PREPARE, 2, 1);
        CHECK.due("a greater one ends a campaign", x.look(1, 4), 0);
        CHECK.due("HEARD is gone", x.look(1, 7), 0);
    }

    private static void promiseIsHeard() {
        MajorityMap x = new MajorityMap();
        x.timer(0);
        Play.deliver(x, Play.PREPARE, 0, 2);
        CHECK.due("it leads not yet", x.look(0, 5), 0);
        CHECK.due("promise", Play.deliver(x, Play.PROMISE, 2, 0), 0);
        CHECK.due("HEARD", x.look(0, 7), 5);
        CHECK.due("it leads", x.look(0, 5), 1);
        MajorityMap y = new MajorityMap();
        y.timer(3);
        Play.deliver(y, Play.PREPARE, 3, 2);
        Play.deliver(y, Play.PROMISE, 2, 3);
        CHECK.due("HEARD outside", y.look(3, 7), 12);
        CHECK.due("one of three members", y.look(3, 5), 0);
    }

    private static void promiseOfAnotherBallot() {
        MajorityMap x = new MajorityMap();
        x.timer(0);
        Play.deliver(x, Play.PREPARE, 0, 1);
        x.crash(0);
        x.restart(0);
        CHECK.due("no campaign", Play.deliver(x, Play.PROMISE, 1, 0), 0);
        x.timer(0);
        Play.deliver(x, Play.PREPARE, 0, 2);
        CHECK.due("a promise of the old ballot", x.message(x.waiting() - 1, 3), 5);
        Play.deliver(x, Play.PROMISE, 2, 0);
        CHECK.due("HEARD", x.look(0, 7), 1);
    }

    private static void promiseInstallsASnapshot() {
        MajorityMap x = Play.ledBy(0);
        int q = x.ask(Play.PUT, 2, 9);
        x.send(q, 0);
        Play.deliver(x, Play.ACCEPT, 0, 1);
        Play.deliver(x, Play.VOTED, 1, 0);
        Play.dropAll(x);
        x.cut(0);
        x.timer(4);
        Play.deliver(x, Play.PREPARE, 4, 0);
        CHECK.due("it carries no vote", x.message(x.waiting() - 1, 4), 0);
        Play.deliver(x, Play.PROMISE, 0, 4);
        Play.dueLook(CHECK, "installed", x, 4, 1, 9, 1, 1, 9, 0, 7, 17);
        CHECK.due("the value", x.value(4, 2), 9);
        CHECK.due("nobody heard it from there", x.heard(q), 1);
        Play.deliver(x, Play.PREPARE, 4, 2);
        Play.deliver(x, Play.PROMISE, 2, 4);
        int next = x.ask(Play.PUT, 2, 10);
        CHECK.due("it leads on from there", x.send(next, 4), 2);
        CHECK.due("with slot 2", x.message(x.waiting() - 1, 3), 2);
    }

    private static void promiseCarriesWhatStoodThen() {
        MajorityMap x = new MajorityMap();
        int q = x.ask(Play.PUT, 0, 9);
        x.timer(0);
        Play.deliver(x, Play.PREPARE, 0, 1);
        Play.deliver(x, Play.PREPARE, 0, 2);
        Play.deliver(x, Play.PROMISE, 2, 0);
        x.send(q, 0);
        Play.deliver(x, Play.ACCEPT, 0, 1);
        CHECK.due("the vote of now", x.vote(1, 1), 64 * 5 + q);
        CHECK.due("the votes of then", x.message(Play.find(x, Play.PROMISE, 1, 0), 4), 0);
        x.timer(2);
        Play.deliver(x, Play.PREPARE, 2, 1);
        CHECK.due("a vote that counts", x.message(Play.find(x, Play.PROMISE, 1, 2), 4), 1);
        Play.deliver(x, Play.VOTED, 1, 0);
        Play.deliver(x, Play.LEARN, 0, 1);
        CHECK.due("cut", x.cut(1), 1);
        CHECK.due("the message keeps it", x.message(Play.find(x, Play.PROMISE, 1, 2), 4), 1);
        CHECK.due("and it is proposed", Play.deliver(x, Play.PROMISE, 1, 2), 2);
        CHECK.due("so is voted", x.vote(2, 1), 64 * 7 + q);
    }

    /** Replica 0 voted for request 1 with ballot 5, replica 1 for request 2 with ballot 6, both in slot 1. */
    private static MajorityMap divided() {
        MajorityMap x = Play.ledBy(0);
        x.ask(Play.PUT, 0, 1);
        x.ask(Play.PUT, 0, 2);
        x.send(1, 0);
        Play.dropAll(x);
        x.timer(1);
        Play.deliver(x, Play.PREPARE, 1, 2);
        Play.deliver(x, Play.PROMISE, 2, 1);
        x.send(2, 1);
        Play.dropAll(x);
        CHECK.due("vote of 0", x.vote(0, 1), 64 * 5 + 1);
        CHECK.due("vote of 1", x.vote(1, 1), 64 * 6 + 2);
        x.crash(0);
        x.restart(0);
        x.crash(1);
        x.restart(1);
        return x;
    }

    private static void greaterVoteReplaces() {
        MajorityMap x = divided();
        x.timer(0);
        Play.deliver(x, Play.PREPARE, 0, 1);
        CHECK.due("proposed", Play.deliver(x, Play.PROMISE, 1, 0), 2);
        CHECK.due("the vote of ballot 6", x.vote(0, 1), 64 * 10 + 2);
    }

    private static void lesserVoteDoesNotReplace() {
        MajorityMap x = divided();
        x.timer(1);
        Play.deliver(x, Play.PREPARE, 1, 0);
        CHECK.due("proposed", Play.deliver(x, Play.PROMISE, 0, 1), 2);
        CHECK.due("the vote of ballot 6", x.vote(1, 1), 64 * 11 + 2);
    }

    private static void gapsAreFilledWithNothing() {
        MajorityMap x = Play.ledBy(0);
        for (int q = 1; q <= 2; q++) {
            x.ask(Play.ADD, 0, 1);
            x.send(q, 0);
        }
        Play.deliver(x, Play.ACCEPT, 0, 1, 2);
        Play.dropAll(x);
        x.crash(0);
        x.timer(2);
        Play.deliver(x, Play.PREPARE, 2, 1);
        CHECK.due("slots 1 and 2 are proposed for", Play.deliver(x, Play.PROMISE, 1, 2), 4);
        CHECK.due("NOTHING is a vote", x.vote(2, 1), 64 * 7);
        CHECK.due("what was collected", x.vote(2, 2), 64 * 7 + 2);
        CHECK.due("not slot 3", x.vote(2, 3), 0);
        Play.dueMessage(CHECK, "nothing", x, Play.find(x, Play.ACCEPT, 2, 0), Play.ACCEPT, 2, 0, 1, 0, 0);
        Play.settle(x);
        CHECK.due("both are executed", x.look(2, 3), 2);
        CHECK.due("only one acted", x.value(2, 0), 1);
        CHECK.due("nobody heard of request 1", x.heard(1), 0);
        CHECK.due("request 2", x.heard(2), 1);
        CHECK.due("a vote for NOTHING at replica 1", x.vote(1, 1), 64 * 7);
        CHECK.due("is forgotten as any other", x.cut(1), 2);
    }

    private static void refuseRaisesPromised() {
        MajorityMap x = new MajorityMap();
        x.timer(0);
        x.timer(1);
        Play.deliver(x, Play.PREPARE, 1, 2);
        Play.deliver(x, Play.PREPARE, 0, 2);
        int i = Play.find(x, Play.REFUSE, 2, 0);
        x.copy(i);
        CHECK.due("refuse", x.deliver(i), 0);
        Play.dueLook(CHECK, "refused", x, 0, 1, 6, 0, 0, 0, 0, 7, 0);
        x.timer(0);
        CHECK.due("a new ballot", x.look(0, 4), 10);
        Play.deliver(x, Play.REFUSE, 2, 0);
        CHECK.due("the old refuse again", x.look(0, 4), 10);
        CHECK.due("PROMISED", x.look(0, 1), 10);
    }

    private static void fetchIsAnswered() {
        MajorityMap x = Play.ledBy(0);
        x.crash(3);
        Play.perform(x, 0, Play.PUT, 0, 8);
        Play.perform(x, 0, Play.PUT, 1, 9);
        x.restart(3);
        x.fetch(3, 0);
        CHECK.due("state", x.deliver(0), 1);
        Play.dueMessage(CHECK, "state", x, 0, Play.STATE, 0, 3, 2, 2, 0);
        x.fetch(4, 0);
        CHECK.due("one that is as far", x.deliver(1), 0);
        x.fetch(0, 3);
        CHECK.due("one that is farther", x.deliver(1), 0);
        CHECK.due("its own snapshot is not meant", x.look(0, 2), 0);
    }

    private static void stateIsInstalled() {
        MajorityMap x = Play.ledBy(0);
        x.crash(3);
        int q = Play.perform(x, 0, Play.PUT, 0, 8);
        x.restart(3);
        x.fetch(3, 0);
        x.deliver(0);
        Play.perform(x, 0, Play.PUT, 0, 9);
        CHECK.due("the message carried the state of then", x.look(3, 3), 2);
        CHECK.due("and LEARN brought the rest", x.value(3, 0), 9);
        CHECK.due("FLOOR is what was installed", x.look(3, 2), 1);
        x.crash(3);
        CHECK.due("the snapshot is kept", x.value(3, 0), 8);
        x.restart(3);
        CHECK.due("done there", x.send(q, 3), 1);
        CHECK.due("votes up to there are forgotten", votesForgottenByInstall(), 0);
    }

    private static int votesForgottenByInstall() {
        MajorityMap x = Play.ledBy(0);
        x.ask(Play.PUT, 0, 8);
        x.ask(Play.PUT, 0, 9);
        x.send(1, 0);
        x.send(2, 0);
        Play.deliver(x, Play.ACCEPT, 0, 1, 1);
        Play.deliver(x, Play.ACCEPT, 0, 1, 2);
        Play.deliver(x, Play.VOTED, 1, 0, 1);
        Play.dropAll(x);
        x.fetch(1, 0);
        x.deliver(0);
        x.deliver(0);
        CHECK.due("the vote above stays", x.vote(1, 2), 64 * 5 + 2);
        return x.vote(1, 1);
    }

    private static void stateLetsKnownCommandsGoOn() {
        MajorityMap x = Play.ledBy(0);
        x.ask(Play.ADD, 0, 1);
        x.ask(Play.ADD, 0, 2);
        x.send(1, 0);
        Play.deliver(x, Play.ACCEPT, 0, 1);
        Play.deliver(x, Play.VOTED, 1, 0);
        Play.dropAll(x);
        x.fetch(4, 0);
        x.deliver(0);
        x.send(2, 0);
        Play.deliver(x, Play.ACCEPT, 0, 1);
        Play.deliver(x, Play.VOTED, 1, 0);
        Play.deliver(x, Play.LEARN, 0, 4);
        CHECK.due("known, not executed", x.look(4, 3), 0);
        CHECK.due("state", Play.deliver(x, Play.STATE, 0, 4), 0);
        Play.dueLook(CHECK, "gone on", x, 4, 1, 0, 1, 2);
        CHECK.due("value", x.value(4, 0), 3);
    }

    private static void stateIsOld() {
        MajorityMap x = Play.ledBy(0);
        x.crash(3);
        Play.perform(x, 0, Play.ADD, 0, 1);
        x.restart(3);
        x.fetch(3, 0);
        x.deliver(0);
        x.copy(0);
        x.deliver(0);
        Play.perform(x, 0, Play.ADD, 0, 2);
        CHECK.due("farther than the copy", x.look(3, 3), 2);
        CHECK.due("no step back", x.value(3, 0), 3);
        CHECK.due("nor for FLOOR", x.look(3, 2), 1);
    }

    private static void stateIsOldForOneThatNeverCut() {
        MajorityMap x = Play.ledBy(0);
        x.ask(Play.ADD, 0, 1);
        x.ask(Play.ADD, 0, 2);
        x.send(1, 0);
        Play.deliver(x, Play.ACCEPT, 0, 1);
        Play.deliver(x, Play.VOTED, 1, 0);
        x.fetch(3, 0);
        Play.deliver(x, Play.FETCH, 3, 0);
        x.copy(Play.find(x, Play.STATE, 0, 3));
        Play.deliver(x, Play.LEARN, 0, 3, 1);
        CHECK.due("as far as the state", Play.deliver(x, Play.STATE, 0, 3), 0);
        Play.dueLook(CHECK, "the same slot", x, 3, 1, 0, 0, 1);
        x.send(2, 0);
        Play.deliver(x, Play.ACCEPT, 0, 1, 2);
        Play.deliver(x, Play.VOTED, 1, 0, 2);
        Play.deliver(x, Play.LEARN, 0, 3, 2);
        CHECK.due("farther than the state", Play.deliver(x, Play.STATE, 0, 3), 0);
        Play.dueLook(CHECK, "an older slot", x, 3, 1, 0, 0, 2);
        CHECK.due("value", x.value(3, 0), 3);
    }

    private static void replyFitsInAFullNet() {
        MajorityMap x = Play.ledBy(0);
        x.crash(1);
        Play.perform(x, 0, Play.ADD, 0, 1);
        x.restart(1);
        Play.fillNet(x, 1, 0);
        CHECK.due("full", x.waiting(), 32);
        CHECK.due("its place is free for the answer", x.deliver(0), 1);
        CHECK.due("full again", x.waiting(), 32);
        CHECK.due("the answer is the newest", x.message(31, 0), Play.STATE);
    }
}
