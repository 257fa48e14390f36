/** Promise 5: ACCEPT, VOTED, LEARN, and what going on proposes. */
public final class VotingTest {
    private static final Check CHECK = new Check("VotingTest");

    public static void main(String[] args) {
        acceptIsVoted();
        acceptIsRefused();
        acceptRaisesPromised();
        acceptBelowTheFloor();
        acceptBelowTheFloorIsRefusedFirst();
        acceptBelowTheFloorIsToldTheSnapshot();
        acceptOfAnExecutedSlot();
        votedMakesKnown();
        votedAfterTheEnd();
        votedOfAnotherBallot();
        votedTwiceByOne();
        votedForALaterSlot();
        learnsAreLostInAFullNet();
        majorityIsOfTheSlotsMembership();
        majorityOfTwoAndFour();
        learnIsExecutedInOrder();
        learnTwice();
        leaderHearsWhatItLearns();
        goingOnFillsGapsBelowKnown();
        goingOnProposesThreeSlots();
        goingOnWaitsForTheMembership();
        goingOnWithoutLeading();
        CHECK.end();
    }

    private static void acceptIsVoted() {
        MajorityMap x = Play.ledBy(0);
        int q = x.ask(Play.PUT, 0, 1);
        x.send(q, 0);
        CHECK.due("voted", Play.deliver(x, Play.ACCEPT, 0, 2), 1);
        CHECK.due("the vote", x.vote(2, 1), 64 * 5 + q);
        Play.dueMessage(CHECK, "voted", x, 1, Play.VOTED, 2, 0, 1, 0, 0);
        CHECK.due("nothing is executed", x.look(2, 3), 0);
    }

    private static void acceptIsRefused() {
        MajorityMap x = Play.ledBy(0);
        int q = x.ask(Play.PUT, 0, 1);
        x.send(q, 0);
        x.timer(1);
        Play.deliver(x, Play.PREPARE, 1, 2);
        CHECK.due("refused", Play.deliver(x, Play.ACCEPT, 0, 2), 1);
        Play.dueMessage(CHECK, "refuse", x, x.waiting() - 1, Play.REFUSE, 2, 0, 6, 0, 0);
        CHECK.due("no vote", x.vote(2, 1), 0);
    }

    private static void acceptRaisesPromised() {
        MajorityMap x = new MajorityMap();
        int q = x.ask(Play.PUT, 0, 1);
        x.timer(1);
        Play.deliver(x, Play.PREPARE, 1, 0);
        Play.deliver(x, Play.PROMISE, 0, 1);
        x.timer(2);
        x.send(q, 1);
        CHECK.due("an older ballot", Play.deliver(x, Play.ACCEPT, 1, 2), 1);
        CHECK.due("is refused", x.vote(2, 1), 0);
        MajorityMap y = new MajorityMap();
        y.ask(Play.PUT, 0, 1);
        y.timer(2);
        Play.deliver(y, Play.PREPARE, 2, 0);
        Play.deliver(y, Play.PROMISE, 0, 2);
        y.timer(1);
        y.send(q, 2);
        CHECK.due("a newer ballot", Play.deliver(y, Play.ACCEPT, 2, 1), 1);
        Play.dueLook(CHECK, "ends a campaign", y, 1, 1, 7, 0, 0, 0, 0, 7, 0);
        CHECK.due("and gets its vote", y.vote(1, 1), 64 * 7 + 1);
    }

    /** Replica 1 has cut slot 1 away; replica 4 does not know it, leads by replicas 0 and 2 and proposes for it. */
    private static MajorityMap cutAway() {
        MajorityMap x = Play.ledBy(0);
        x.ask(Play.PUT, 0, 6);
        x.ask(Play.PUT, 1, 7);
        x.ask(Play.PUT, 1, 8);
        x.send(1, 0);
        Play.deliver(x, Play.ACCEPT, 0, 1);
        Play.deliver(x, Play.VOTED, 1, 0);
        Play.deliver(x, Play.LEARN, 0, 1);
        Play.dropAll(x);
        x.cut(1);
        x.timer(4);
        Play.deliver(x, Play.PREPARE, 4, 0);
        Play.deliver(x, Play.PROMISE, 0, 4);
        Play.deliver(x, Play.PREPARE, 4, 2);
        CHECK.due("it proposes the vote of 0", Play.deliver(x, Play.PROMISE, 2, 4), 3);
        return x;
    }

    private static void acceptBelowTheFloor() {
        MajorityMap x = cutAway();
        CHECK.due("state", Play.deliver(x, Play.ACCEPT, 4, 1), 1);
        Play.dueMessage(CHECK, "state", x, x.waiting() - 1, Play.STATE, 1, 4, 1, 1, 0);
        CHECK.due("no vote", x.vote(1, 1), 0);
        CHECK.due("PROMISED", x.look(1, 1), 9);
        Play.deliver(x, Play.STATE, 1, 4);
        Play.dueLook(CHECK, "installed", x, 4, 1, 9, 1, 1, 9, 1, 7, 21);
        CHECK.due("the value", x.value(4, 0), 6);
        CHECK.due("the next slot", x.send(2, 4), 2);
        CHECK.due("slot 2", x.message(x.waiting() - 1, 3), 2);
        CHECK.due("the repeat leaves slot 1 out", x.timer(4), 4);
    }

    private static void acceptBelowTheFloorIsRefusedFirst() {
        MajorityMap x = cutAway();
        x.timer(1);
        x.crash(1);
        x.restart(1);
        x.timer(1);
        CHECK.due("its ballot is above that of 4", x.look(1, 4), 11);
        Play.deliver(x, Play.ACCEPT, 4, 1);
        Play.dueMessage(CHECK, "refuse", x, x.waiting() - 1, Play.REFUSE, 1, 4, 11, 0, 0);
    }

    private static void acceptBelowTheFloorIsToldTheSnapshot() {
        MajorityMap x = Play.ledBy(0);
        x.ask(Play.PUT, 0, 6);
        x.ask(Play.PUT, 0, 7);
        x.send(1, 0);
        x.send(2, 0);
        for (int s = 1; s <= 2; s++) {
            Play.deliver(x, Play.ACCEPT, 0, 1, s);
            Play.deliver(x, Play.VOTED, 1, 0, s);
            Play.deliver(x, Play.LEARN, 0, 2, s);
            if (s == 1) {
                x.cut(2);
            }
        }
        Play.dueLook(CHECK, "one slot farther than its snapshot", x, 2, 1, 5, 1, 2);
        CHECK.due("slot 1", Play.deliver(x, Play.ACCEPT, 0, 2, 1), 1);
        Play.dueMessage(CHECK, "the snapshot", x, x.waiting() - 1, Play.STATE, 2, 0, 1, 1, 0);
        CHECK.due("slot 2 is above FLOOR", Play.deliver(x, Play.ACCEPT, 0, 2, 2), 1);
        CHECK.due("and is voted for", x.message(x.waiting() - 1, 0), Play.VOTED);
    }

    private static void acceptOfAnExecutedSlot() {
        MajorityMap x = Play.ledBy(0);
        int q = x.ask(Play.PUT, 0, 6);
        x.send(q, 0);
        Play.deliver(x, Play.ACCEPT, 0, 1);
        Play.deliver(x, Play.VOTED, 1, 0);
        Play.deliver(x, Play.LEARN, 0, 2);
        CHECK.due("executed", x.look(2, 3), 1);
        CHECK.due("no vote", x.vote(2, 1), 0);
        CHECK.due("above FLOOR it votes all the same", Play.deliver(x, Play.ACCEPT, 0, 2), 1);
        CHECK.due("vote", x.vote(2, 1), 64 * 5 + q);
        CHECK.due("the leader does nothing with it", Play.deliver(x, Play.VOTED, 2, 0), 0);
    }

    private static void votedMakesKnown() {
        MajorityMap x = Play.ledBy(1);
        int q = x.ask(Play.PUT, 3, 6);
        x.send(q, 1);
        Play.deliver(x, Play.ACCEPT, 1, 0);
        CHECK.due("to all the other replicas", Play.deliver(x, Play.VOTED, 0, 1), 4);
        int[] receivers = {0, 2, 3, 4};
        for (int n = 0; n < 4; n++) {
            Play.dueMessage(CHECK, "learn", x, 1 + n, Play.LEARN, 1, receivers[n], 1, 0, q);
        }
        CHECK.due("executed", x.look(1, 3), 1);
        CHECK.due("value", x.value(1, 3), 6);
        CHECK.due("heard", x.heard(q), 1);
    }

    private static void votedAfterTheEnd() {
        MajorityMap x = Play.ledBy(0);
        x.ask(Play.PUT, 0, 1);
        x.send(1, 0);
        Play.deliver(x, Play.ACCEPT, 0, 1);
        x.crash(0);
        x.restart(0);
        CHECK.due("no campaign", Play.deliver(x, Play.VOTED, 1, 0), 0);
        CHECK.due("not executed", x.look(0, 3), 0);
    }

    /** The vote of an old campaign comes when the same command is proposed in a new one. */
    private static void votedOfAnotherBallot() {
        MajorityMap x = Play.ledBy(0);
        x.ask(Play.PUT, 0, 1);
        x.send(1, 0);
        Play.deliver(x, Play.ACCEPT, 0, 1);
        x.crash(0);
        x.restart(0);
        x.timer(0);
        Play.deliver(x, Play.PREPARE, 0, 2);
        CHECK.due("proposed again", Play.deliver(x, Play.PROMISE, 2, 0), 2);
        CHECK.due("an old vote", Play.deliver(x, Play.VOTED, 1, 0), 0);
        CHECK.due("not executed", x.look(0, 3), 0);
    }

    private static void votedTwiceByOne() {
        MajorityMap x = Play.ledBy(3);
        x.ask(Play.PUT, 0, 1);
        x.send(1, 3);
        Play.deliver(x, Play.ACCEPT, 3, 1);
        x.copy(Play.find(x, Play.VOTED, 1, 3));
        CHECK.due("once", Play.deliver(x, Play.VOTED, 1, 3), 0);
        CHECK.due("twice", Play.deliver(x, Play.VOTED, 1, 3), 0);
        CHECK.due("not executed", x.look(3, 3), 0);
    }

    private static void votedForALaterSlot() {
        MajorityMap x = Play.ledBy(0);
        x.ask(Play.PUT, 0, 1);
        x.ask(Play.ADD, 0, 2);
        x.send(1, 0);
        x.send(2, 0);
        Play.deliver(x, Play.ACCEPT, 0, 1, 2);
        x.copy(Play.find(x, Play.VOTED, 1, 0));
        CHECK.due("known", Play.deliver(x, Play.VOTED, 1, 0), 4);
        CHECK.due("not executed", x.look(0, 3), 0);
        CHECK.due("not heard", x.heard(2), 0);
        CHECK.due("known already", Play.deliver(x, Play.VOTED, 1, 0), 0);
        Play.deliver(x, Play.ACCEPT, 0, 2, 1);
        CHECK.due("both go on", Play.deliver(x, Play.VOTED, 2, 0), 4);
        CHECK.due("executed", x.look(0, 3), 2);
        CHECK.due("in the order of slots", x.reply(2), 3);
    }

    private static void learnsAreLostInAFullNet() {
        MajorityMap x = Play.ledBy(0);
        x.ask(Play.PUT, 0, 1);
        x.send(1, 0);
        Play.deliver(x, Play.ACCEPT, 0, 1);
        Play.fillNet(x, 3, 4);
        CHECK.due("one of four fits", Play.deliver(x, Play.VOTED, 1, 0), 1);
        Play.dueMessage(CHECK, "the first", x, 31, Play.LEARN, 0, 1, 1, 0, 1);
        CHECK.due("executed all the same", x.value(0, 0), 1);
    }

    private static void majorityIsOfTheSlotsMembership() {
        MajorityMap x = Play.ledBy(0);
        Play.perform(x, 0, Play.MEMBERS, 0, 26);
        Play.perform(x, 0, Play.READ, 0, 0);
        Play.perform(x, 0, Play.READ, 0, 0);
        CHECK.due("one of three heard", x.look(0, 5), 0);
        x.timer(0);
        Play.settle(x);
        CHECK.due("three of three heard", x.look(0, 5), 1);
        int q = x.ask(Play.PUT, 0, 1);
        x.send(q, 0);
        CHECK.due("no vote of one that left", x.vote(0, 4), 0);
        CHECK.due("three accepts", x.waiting(), 3);
        CHECK.due("the first", x.message(0, 2), 1);
        CHECK.due("the last", x.message(2, 2), 4);
        Play.deliver(x, Play.ACCEPT, 0, 3);
        CHECK.due("one of three", Play.deliver(x, Play.VOTED, 3, 0), 0);
        Play.deliver(x, Play.ACCEPT, 0, 4);
        CHECK.due("two of three", Play.deliver(x, Play.VOTED, 4, 0), 4);
        CHECK.due("executed", x.look(0, 3), 4);
    }

    private static void majorityOfTwoAndFour() {
        dueVotesNeeded(3, 1);
        dueVotesNeeded(15, 2);
        dueVotesNeeded(31, 2);
    }

    /** How many votes beside the leader's own make a majority. */
    private static void dueVotesNeeded(int membership, int needed) {
        MajorityMap x = Play.ledBy(0);
        Play.perform(x, 0, Play.MEMBERS, 0, membership);
        Play.perform(x, 0, Play.READ, 0, 0);
        Play.perform(x, 0, Play.READ, 0, 0);
        x.timer(0);
        Play.settle(x);
        int q = x.ask(Play.PUT, 0, 1);
        x.send(q, 0);
        int others = x.waiting();
        CHECK.due("members of " + membership, others, Integer.bitCount(membership) - 1);
        for (int n = 1; n <= others; n++) {
            x.deliver(0);
        }
        for (int n = 1; n < needed; n++) {
            CHECK.due("vote " + n + " in " + membership, x.deliver(0), 0);
        }
        CHECK.due("the vote that decides in " + membership, x.deliver(0), 4);
        CHECK.due("executed", x.look(0, 3), 4);
    }

    private static void learnIsExecutedInOrder() {
        MajorityMap x = Play.ledBy(0);
        for (int q = 1; q <= 3; q++) {
            x.ask(Play.ADD, 0, q);
            x.send(q, 0);
            Play.deliver(x, Play.ACCEPT, 0, 1);
            Play.deliver(x, Play.VOTED, 1, 0);
        }
        CHECK.due("slot 3", Play.deliver(x, Play.LEARN, 0, 4, 3), 0);
        CHECK.due("slot 2", Play.deliver(x, Play.LEARN, 0, 4, 2), 0);
        CHECK.due("nothing is executed", x.look(4, 3), 0);
        CHECK.due("slot 1", Play.deliver(x, Play.LEARN, 0, 4, 1), 0);
        CHECK.due("all are", x.look(4, 3), 3);
        CHECK.due("value", x.value(4, 0), 6);
        CHECK.due("a follower tells no client", x.heard(1), 1);
    }

    private static void learnTwice() {
        MajorityMap x = Play.ledBy(0);
        x.ask(Play.ADD, 0, 5);
        x.send(1, 0);
        Play.deliver(x, Play.ACCEPT, 0, 1);
        Play.deliver(x, Play.VOTED, 1, 0);
        x.copy(Play.find(x, Play.LEARN, 0, 4));
        Play.deliver(x, Play.LEARN, 0, 4);
        CHECK.due("again", Play.deliver(x, Play.LEARN, 0, 4), 0);
        CHECK.due("added once", x.value(4, 0), 5);
        CHECK.due("executed once", x.look(4, 3), 1);
    }

    private static void leaderHearsWhatItLearns() {
        MajorityMap x = Play.ledBy(0);
        x.ask(Play.ADD, 0, 5);
        x.send(1, 0);
        Play.deliver(x, Play.ACCEPT, 0, 1);
        Play.deliver(x, Play.VOTED, 1, 0);
        x.timer(3);
        CHECK.due("heard once", x.heard(1), 1);
        Play.deliver(x, Play.LEARN, 0, 3);
        CHECK.due("one that campaigns tells the client, too", x.heard(1), 2);
        CHECK.due("the answer", x.reply(1), 5);
    }

    /** Slot 4 has members of its own, so replica 1 can know it and yet collect no vote for it. */
    private static void goingOnFillsGapsBelowKnown() {
        MajorityMap x = Play.ledBy(0);
        Play.perform(x, 0, Play.MEMBERS, 0, 24);
        x.timer(0);
        Play.settle(x);
        for (int q = 2; q <= 4; q++) {
            x.ask(Play.ADD, 0, q);
            x.send(q, 0);
        }
        Play.deliver(x, Play.ACCEPT, 0, 3, 4);
        Play.deliver(x, Play.ACCEPT, 0, 4, 4);
        Play.deliver(x, Play.VOTED, 3, 0);
        CHECK.due("slot 4 is known", Play.deliver(x, Play.VOTED, 4, 0), 4);
        Play.deliver(x, Play.LEARN, 0, 1);
        Play.dropAll(x);
        x.crash(0);
        x.timer(1);
        Play.deliver(x, Play.PREPARE, 1, 2);
        CHECK.due("NOTHING for slots 2 and 3", Play.deliver(x, Play.PROMISE, 2, 1), 4);
        int first = Play.find(x, Play.ACCEPT, 1, 0);
        int[] receivers = {0, 2, 0, 2};
        for (int n = 0; n < 4; n++) {
            Play.dueMessage(CHECK, "gap", x, first + n, Play.ACCEPT, 1, receivers[n], 2 + n / 2, 0, 0);
        }
        Play.deliver(x, Play.ACCEPT, 1, 2, 2);
        Play.deliver(x, Play.ACCEPT, 1, 2, 3);
        Play.deliver(x, Play.VOTED, 2, 1, 2);
        Play.deliver(x, Play.VOTED, 2, 1, 3);
        CHECK.due("executed", x.look(1, 3), 4);
        CHECK.due("only request 4 acted", x.value(1, 0), 4);
        CHECK.due("heard", x.heard(4), 1);
    }

    private static void goingOnProposesThreeSlots() {
        MajorityMap x = Play.ledBy(0);
        for (int q = 1; q <= 4; q++) {
            x.ask(Play.ADD, 0, q);
        }
        for (int q = 1; q <= 3; q++) {
            x.send(q, 0);
        }
        Play.deliver(x, Play.ACCEPT, 0, 1, 1);
        Play.deliver(x, Play.VOTED, 1, 0, 1);
        x.send(4, 0);
        Play.deliver(x, Play.ACCEPT, 0, 1, 4);
        Play.dropAll(x);
        x.crash(0);
        x.timer(2);
        Play.deliver(x, Play.PREPARE, 2, 1);
        CHECK.due("it carries two votes", x.message(x.waiting() - 1, 4), 2);
        CHECK.due("slots 1, 2 and 3", Play.deliver(x, Play.PROMISE, 1, 2), 6);
        CHECK.due("slot 1 as collected", x.vote(2, 1), 64 * 7 + 1);
        CHECK.due("slot 2 is a gap", x.vote(2, 2), 64 * 7);
        CHECK.due("slot 3 is a gap", x.vote(2, 3), 64 * 7);
        CHECK.due("slot 4 not yet", x.vote(2, 4), 0);
        Play.deliver(x, Play.ACCEPT, 2, 1, 1);
        CHECK.due("four LEARN, and slot 4", Play.deliver(x, Play.VOTED, 1, 2), 6);
        CHECK.due("LEARN goes before ACCEPT", x.message(x.waiting() - 3, 0), Play.LEARN);
        CHECK.due("slot 4 as collected", x.vote(2, 4), 64 * 7 + 4);
    }

    private static void goingOnWaitsForTheMembership() {
        MajorityMap x = Play.ledBy(0);
        Play.perform(x, 0, Play.MEMBERS, 0, 24);
        for (int q = 2; q <= 5; q++) {
            x.ask(Play.ADD, 0, q);
        }
        x.timer(0);
        Play.settle(x);
        x.send(2, 0);
        x.send(3, 0);
        x.send(4, 0);
        Play.deliver(x, Play.ACCEPT, 0, 3, 4);
        Play.dropAll(x);
        x.crash(0);
        x.timer(1);
        Play.deliver(x, Play.PREPARE, 1, 2);
        CHECK.due("no vote for slots 2 and 3 is collected", Play.deliver(x, Play.PROMISE, 2, 1), 0);
        Play.deliver(x, Play.PREPARE, 1, 3);
        CHECK.due("gaps at 2 and 3, slot 4 has one of two", Play.deliver(x, Play.PROMISE, 3, 1), 4);
        CHECK.due("not slot 4", x.send(5, 1), 4);
        Play.deliver(x, Play.PREPARE, 1, 4);
        CHECK.due("slot 4 to both its members", Play.deliver(x, Play.PROMISE, 4, 1), 2);
        Play.dueMessage(CHECK, "slot 4", x, x.waiting() - 1, Play.ACCEPT, 1, 4, 4, 0, 4);
        CHECK.due("no vote of one outside", x.vote(1, 4), 0);
    }

    /** Slot 4 has members that replica 1 never hears of, slot 5 has the first members again. */
    private static void goingOnWithoutLeading() {
        MajorityMap x = Play.ledBy(0);
        Play.perform(x, 0, Play.MEMBERS, 0, 24);
        Play.perform(x, 0, Play.MEMBERS, 0, 7);
        Play.perform(x, 0, Play.READ, 0, 0);
        x.timer(0);
        Play.settle(x);
        x.ask(Play.ADD, 0, 4);
        x.ask(Play.ADD, 0, 5);
        x.send(4, 0);
        x.send(5, 0);
        Play.deliver(x, Play.ACCEPT, 0, 2, 5);
        Play.dropAll(x);
        x.crash(0);
        x.timer(1);
        Play.deliver(x, Play.PREPARE, 1, 2);
        CHECK.due("slot 5 is proposed for", Play.deliver(x, Play.PROMISE, 2, 1), 2);
        CHECK.due("slot 4 is not", x.vote(1, 4), 0);
        CHECK.due("its vote for slot 5", x.vote(1, 5), 64 * 6 + 5);
        CHECK.due("it does not lead", x.look(1, 5), 0);
        Play.deliver(x, Play.ACCEPT, 1, 2, 5);
        CHECK.due("slot 5 is known", Play.deliver(x, Play.VOTED, 2, 1), 4);
        CHECK.due("but not executed", x.look(1, 3), 3);
        CHECK.due("request 5 is known", x.send(5, 1), 3);
        Play.deliver(x, Play.PREPARE, 1, 3);
        Play.deliver(x, Play.PREPARE, 1, 4);
        Play.deliver(x, Play.PROMISE, 3, 1);
        CHECK.due("slot 4 is a gap below a known slot", Play.deliver(x, Play.PROMISE, 4, 1), 2);
        Play.settle(x);
        CHECK.due("both are executed", x.look(1, 3), 5);
        CHECK.due("one acted", x.value(1, 0), 5);
    }
}
