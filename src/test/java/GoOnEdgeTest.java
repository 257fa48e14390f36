/**
 * The sentences of the document's "Terms" on how a replica INSTALLS, GOES ON and PROPOSES: each case that a sentence
 * sets apart has a test of its own.
 */
public final class GoOnEdgeTest {
    private static final Check CHECK = new Check("GoOnEdgeTest");

    public static void main(String[] args) {
        install();
        goOnExecutes();
        goOnProposes();
        propose();
        CHECK.end();
    }

    private static void install() {
        installOfTheSameSlot();
        installOfALesserSlot();
        installOfTheNextSlot();
        installForgetsVotesUpToF();
        installLeavesKnownAboveF();
    }

    private static void goOnExecutes() {
        goOnStopsAtAGap();
        goOnTellsWhatWasDoneBefore();
        goOnTellsNothingOfNothing();
        goOnTellsNobodyWithoutACampaign();
    }

    private static void goOnProposes() {
        goOnProposesThreeSlotsAtMost();
        goOnProposesUpTo24();
        goOnProposesNoneAfter24();
        goOnProposesNoneWithoutACampaign();
        goOnLeavesOutWhatIsKnown();
        goOnLeavesOutWhatIsProposed();
        goOnLeavesOutWhereHeardIsTooSmall();
        goOnProposesWithoutLeading();
        goOnProposesWhatIsCollected();
        goOnFillsBelowAKnownSlot();
        goOnFillsBelowACollectedSlot();
        goOnProposesNoneYet();
    }

    private static void propose() {
        proposeAsAMember();
        proposeAsNoMember();
        proposeToTheMembersOfThatSlot();
    }

    /** Replica 3 has executed slot 1 and waits with a STATE of slot 1; slot 2 is decided, and its LEARN waits, too. */
    private static MajorityMap oldStateWaits() {
        MajorityMap x = Play.proposing(2);
        Play.collectVote(x, 0, 1, 1);
        x.fetch(3, 0);
        Play.deliver(x, Play.FETCH, 3, 0);
        Play.collectVote(x, 0, 1, 2);
        Play.deliver(x, Play.LEARN, 0, 3, 1);
        return x;
    }

    /** "To INSTALL a state that goes up to slot f: nothing, if f <= e.", f = e */
    private static void installOfTheSameSlot() {
        MajorityMap x = oldStateWaits();
        Play.deliver(x, Play.STATE, 0, 3);
        Play.dueLook(CHECK, "FLOOR does not grow", x, 3, 1, 0, 0, 1);
    }

    /** "nothing, if f <= e", f < e */
    private static void installOfALesserSlot() {
        MajorityMap x = oldStateWaits();
        Play.deliver(x, Play.LEARN, 0, 3, 2);
        Play.deliver(x, Play.STATE, 0, 3);
        Play.dueLook(CHECK, "no step back", x, 3, 1, 0, 0, 2);
        CHECK.due("the value", x.value(3, 0), 3);
    }

    /** "Otherwise it is both its snapshot and its present state, FLOOR and EXECUTED become f", f = e + 1 */
    private static void installOfTheNextSlot() {
        MajorityMap x = Play.ledThrough(0, 1);
        Play.bounce(x, 3);
        x.fetch(3, 0);
        x.deliver(0);
        x.deliver(0);
        Play.dueLook(CHECK, "installed", x, 3, 1, 0, 1, 1);
        CHECK.due("the present state", x.value(3, 0), 1);
        x.crash(3);
        Play.dueLook(CHECK, "after a crash", x, 3, 0, 0, 1, 1);
        CHECK.due("the snapshot", x.value(3, 0), 1);
    }

    /** "votes [..] for slots up to f are forgotten" */
    private static void installForgetsVotesUpToF() {
        MajorityMap x = Play.proposing(3);
        for (int s = 1; s <= 3; s++) {
            Play.deliver(x, Play.ACCEPT, 0, 1, s);
        }
        Play.deliver(x, Play.VOTED, 1, 0, 1);
        Play.deliver(x, Play.VOTED, 1, 0, 2);
        Play.dropAll(x);
        x.fetch(1, 0);
        x.deliver(0);
        x.deliver(0);
        CHECK.due("EXECUTED", x.look(1, 3), 2);
        CHECK.due("below f", x.vote(1, 1), 0);
        CHECK.due("at f", x.vote(1, 2), 0);
        CHECK.due("above f", x.vote(1, 3), 64 * 5 + 3);
    }

    /** "known commands for slots up to f are forgotten": those above are not */
    private static void installLeavesKnownAboveF() {
        MajorityMap x = oldStateWaits();
        Play.bounce(x, 3);
        Play.deliver(x, Play.LEARN, 0, 3, 2);
        CHECK.due("known alone", x.look(3, 3), 0);
        Play.deliver(x, Play.STATE, 0, 3);
        Play.dueLook(CHECK, "executed upon slot 1", x, 3, 1, 0, 1, 2);
    }

    /** "first, while slot e + 1 is known, its command is executed on the present state and EXECUTED grows by one" */
    private static void goOnStopsAtAGap() {
        MajorityMap x = Play.proposing(3);
        for (int s = 1; s <= 3; s++) {
            Play.collectVote(x, 0, 1, s);
        }
        x.send(x.ask(Play.ADD, 0, 4), 0);
        Play.collectVote(x, 0, 1, 4);
        Play.deliver(x, Play.LEARN, 0, 3, 4);
        Play.deliver(x, Play.LEARN, 0, 3, 2);
        CHECK.due("slots 2 and 4", x.look(3, 3), 0);
        Play.deliver(x, Play.LEARN, 0, 3, 1);
        CHECK.due("slots 1, 2 and 4", x.look(3, 3), 2);
        CHECK.due("the value", x.value(3, 0), 3);
        Play.deliver(x, Play.LEARN, 0, 3, 3);
        CHECK.due("all four", x.look(3, 3), 4);
        CHECK.due("the value", x.value(3, 0), 10);
    }

    /** "if it is a request (done before or not) and the replica campaigns, the client HEARS that request's answer" */
    private static void goOnTellsWhatWasDoneBefore() {
        MajorityMap x = Play.ledBy(0);
        x.ask(Play.ADD, 0, 5);
        x.ask(Play.ADD, 0, 100);
        x.send(2, 0);
        x.send(1, 0);
        Play.dropAll(x);
        x.timer(1);
        Play.collectPromise(x, 1, 2);
        x.send(1, 1);
        Play.dropAll(x);
        x.crash(1);
        x.restart(1);
        Play.bounce(x, 0);
        x.timer(0);
        Play.collectPromise(x, 0, 1);
        CHECK.due("request 1 in slot 1", Play.collectVote(x, 0, 1, 1), 4);
        CHECK.due("heard", x.heard(1), 1);
        CHECK.due("the answer", x.reply(1), 5);
        CHECK.due("request 1 in slot 2", Play.collectVote(x, 0, 1, 2), 4);
        CHECK.due("heard again", x.heard(1), 2);
        CHECK.due("the same answer", x.reply(1), 5);
    }

    /** "if it is a request": NOTHING is not */
    private static void goOnTellsNothingOfNothing() {
        MajorityMap x = Play.proposing(2);
        Play.deliver(x, Play.ACCEPT, 0, 1, 2);
        Play.dropAll(x);
        x.timer(2);
        Play.collectPromise(x, 2, 1);
        Play.collectVote(x, 2, 1, 1);
        CHECK.due("NOTHING is executed", x.look(2, 3), 1);
        for (int q = 0; q <= 2; q++) {
            CHECK.due("heard(" + q + ")", x.heard(q), 0);
        }
    }

    /** "and the replica campaigns": one that does not tells nobody */
    private static void goOnTellsNobodyWithoutACampaign() {
        MajorityMap x = Play.proposing(1);
        Play.collectVote(x, 0, 1, 1);
        CHECK.due("the leader told it", x.heard(1), 1);
        Play.deliver(x, Play.LEARN, 0, 2);
        CHECK.due("executed at a follower", x.look(2, 3), 1);
        CHECK.due("heard", x.heard(1), 1);
    }

    /** Slots 1 to 4 have votes at replica 1, of which slot 1 alone is executed, and that at replica 0 alone. */
    private static MajorityMap fourVotes() {
        MajorityMap x = Play.proposing(3);
        for (int s = 1; s <= 3; s++) {
            Play.deliver(x, Play.ACCEPT, 0, 1, s);
        }
        Play.deliver(x, Play.VOTED, 1, 0, 1);
        x.send(x.ask(Play.ADD, 0, 4), 0);
        Play.deliver(x, Play.ACCEPT, 0, 1, 4);
        Play.dropAll(x);
        x.crash(0);
        return x;
    }

    /** "for s = e + 1, e + 2, e + 3 [..] in this order" */
    private static void goOnProposesThreeSlotsAtMost() {
        MajorityMap x = fourVotes();
        x.timer(2);
        CHECK.due("three slots, two others", Play.collectPromise(x, 2, 1), 6);
        int first = x.waiting() - 6;
        for (int n = 0; n < 6; n++) {
            int s = 1 + n / 2;
            Play.dueMessage(CHECK, "in order", x, first + n, Play.ACCEPT, 2, n % 2, s, 0, s);
        }
        CHECK.due("not slot e + 4", x.vote(2, 4), 0);
    }

    /** "(those up to 24)": slots 23 and 24 are proposed for, and no 25 */
    private static void goOnProposesUpTo24() {
        MajorityMap x = Play.ledThrough(0, 22);
        x.ask(Play.ADD, 0, 1);
        x.ask(Play.ADD, 0, 1);
        x.send(23, 0);
        x.send(24, 0);
        Play.deliver(x, Play.ACCEPT, 0, 1, 23);
        Play.deliver(x, Play.ACCEPT, 0, 1, 24);
        Play.dropAll(x);
        x.timer(2);
        CHECK.due("two slots", Play.collectPromise(x, 2, 1), 4);
        Play.dueNewest(CHECK, "the last", x, Play.ACCEPT, 2, 1, 24, 0, 24);
        CHECK.due("slot 23", x.vote(2, 23), 64 * 7 + 23);
        CHECK.due("slot 24", x.vote(2, 24), 64 * 7 + 24);
    }

    /** "(those up to 24)": when all are executed there is none */
    private static void goOnProposesNoneAfter24() {
        MajorityMap x = Play.ledThrough(0, 24);
        x.timer(2);
        CHECK.due("nothing to propose", Play.collectPromise(x, 2, 1), 0);
        CHECK.due("it leads all the same", x.look(2, 5), 1);
    }

    /** "Then, if it campaigns": what a campaign collected counts no more when it is over */
    private static void goOnProposesNoneWithoutACampaign() {
        MajorityMap x = Play.proposing(3);
        for (int s = 1; s <= 3; s++) {
            Play.deliver(x, Play.ACCEPT, 0, 1, s);
        }
        Play.deliver(x, Play.VOTED, 1, 0, 1);
        x.send(x.ask(Play.ADD, 0, 4), 0);
        Play.deliver(x, Play.ACCEPT, 0, 1, 4);
        x.timer(2);
        CHECK.due("slots 1, 2 and 3", Play.collectPromise(x, 2, 1), 6);
        x.timer(3);
        Play.deliver(x, Play.PREPARE, 3, 2);
        CHECK.due("slot 1 is learned", Play.deliver(x, Play.LEARN, 0, 2), 0);
        CHECK.due("and executed", x.look(2, 3), 1);
        CHECK.due("no vote for slot 4", x.vote(2, 4), 0);
    }

    /** "if s is not known" */
    private static void goOnLeavesOutWhatIsKnown() {
        MajorityMap x = Play.proposing(2);
        Play.collectVote(x, 0, 1, 2);
        Play.deliver(x, Play.LEARN, 0, 2, 2);
        Play.dropAll(x);
        x.crash(0);
        x.timer(2);
        CHECK.due("slot 1 alone, two others", Play.collectPromise(x, 2, 1), 2);
        Play.dueNewest(CHECK, "NOTHING", x, Play.ACCEPT, 2, 1, 1, 0, 0);
        CHECK.due("no vote for slot 2, though it is collected", x.vote(2, 2), 0);
    }

    /** "and nothing is proposed for s" */
    private static void goOnLeavesOutWhatIsProposed() {
        MajorityMap x = fourVotes();
        x.restart(0);
        x.timer(2);
        CHECK.due("three slots", Play.collectPromise(x, 2, 1), 6);
        CHECK.due("one promise more proposes nothing anew", Play.collectPromise(x, 2, 0), 0);
    }

    /** "and HEARD holds a majority of the membership of s" */
    private static void goOnLeavesOutWhereHeardIsTooSmall() {
        MajorityMap x = Play.ledBy(0);
        Play.perform(x, 0, Play.MEMBERS, 0, 24);
        x.timer(0);
        Play.settle(x);
        for (int q = 2; q <= 4; q++) {
            x.ask(Play.ADD, 0, q);
            x.send(q, 0);
        }
        Play.deliver(x, Play.ACCEPT, 0, 2, 3);
        Play.deliver(x, Play.ACCEPT, 0, 3, 4);
        Play.dropAll(x);
        x.crash(0);
        x.timer(1);
        CHECK.due("slots 2 and 3 of 7", Play.collectPromise(x, 1, 2), 4);
        CHECK.due("slot 4 is collected, with one of two", Play.collectPromise(x, 1, 3), 0);
        CHECK.due("with two of two", Play.collectPromise(x, 1, 4), 2);
        Play.dueNewest(CHECK, "slot 4", x, Play.ACCEPT, 1, 4, 4, 0, 4);
    }

    /** "HEARD holds a majority of the membership of s": of slot e + 2, where it holds none of that of slot e + 1 */
    private static void goOnProposesWithoutLeading() {
        MajorityMap x = Play.ledBy(0);
        Play.perform(x, 0, Play.MEMBERS, 0, 24);
        Play.perform(x, 0, Play.MEMBERS, 0, 7);
        Play.perform(x, 0, Play.READ, 0, 0);
        x.timer(0);
        Play.settle(x);
        x.send(x.ask(Play.ADD, 0, 4), 0);
        x.send(x.ask(Play.ADD, 0, 5), 0);
        Play.deliver(x, Play.ACCEPT, 0, 2, 5);
        Play.dropAll(x);
        x.crash(0);
        x.timer(1);
        CHECK.due("slot 5 is of 7", Play.collectPromise(x, 1, 2), 2);
        Play.dueNewest(CHECK, "slot 5", x, Play.ACCEPT, 1, 2, 5, 0, 5);
        CHECK.due("slot 4 is of 24", x.vote(1, 4), 0);
        CHECK.due("so it does not lead", x.look(1, 5), 0);
    }

    /** "it proposes the command that COLLECTED has for s" */
    private static void goOnProposesWhatIsCollected() {
        MajorityMap x = fourVotes();
        x.timer(2);
        Play.collectPromise(x, 2, 1);
        for (int s = 1; s <= 3; s++) {
            CHECK.due("slot " + s, x.vote(2, s), 64 * 7 + s);
        }
        MajorityMap own = Play.proposing(1);
        Play.dropAll(own);
        Play.bounce(own, 0);
        own.timer(0);
        CHECK.due("its own vote, too", Play.collectPromise(own, 0, 1), 2);
        CHECK.due("slot 1", own.vote(0, 1), 64 * 10 + 1);
    }

    /** "if there is none, it proposes NOTHING when a slot above s is known" */
    private static void goOnFillsBelowAKnownSlot() {
        MajorityMap x = Play.ledBy(4);
        for (int q = 1; q <= 3; q++) {
            x.ask(Play.ADD, 0, q);
        }
        x.timer(0);
        Play.collectPromise(x, 0, 1);
        Play.dropAll(x);
        for (int q = 1; q <= 3; q++) {
            x.send(q, 0);
        }
        Play.collectVote(x, 0, 1, 3);
        CHECK.due("replica 4 does not know of ballot 10", x.look(4, 5), 1);
        CHECK.due("slots 1 and 2, three members", Play.deliver(x, Play.LEARN, 0, 4, 3), 6);
        for (int n = 0; n < 6; n++) {
            int i = x.waiting() - 6 + n;
            Play.dueMessage(CHECK, "NOTHING", x, i, Play.ACCEPT, 4, n % 3, 1 + n / 3, 0, 0);
        }
    }

    /** "it proposes NOTHING when a slot above s is [..] in COLLECTED", also one above e + 3 */
    private static void goOnFillsBelowACollectedSlot() {
        MajorityMap x = Play.proposing(3);
        Play.collectVote(x, 0, 1, 1);
        x.send(x.ask(Play.ADD, 0, 4), 0);
        Play.deliver(x, Play.ACCEPT, 0, 1, 4);
        Play.dropAll(x);
        x.crash(0);
        x.timer(2);
        CHECK.due("slots 1, 2 and 3", Play.collectPromise(x, 2, 1), 6);
        CHECK.due("slot 1 is collected", x.vote(2, 1), 64 * 7 + 1);
        CHECK.due("slot 2 is filled", x.vote(2, 2), 64 * 7);
        CHECK.due("slot 3 is filled, below slot 4", x.vote(2, 3), 64 * 7);
    }

    /** "otherwise it proposes none yet" */
    private static void goOnProposesNoneYet() {
        MajorityMap x = Play.proposing(1);
        Play.deliver(x, Play.ACCEPT, 0, 1);
        Play.dropAll(x);
        x.crash(0);
        x.timer(2);
        CHECK.due("slot 1 alone", Play.collectPromise(x, 2, 1), 2);
        CHECK.due("slot 2 is above all", x.vote(2, 2), 0);
        x.ask(Play.ADD, 0, 1);
        CHECK.due("so it is free for a request", x.send(2, 2), 2);
        CHECK.due("slot 2", x.vote(2, 2), 64 * 7 + 2);
    }

    /** "if it is itself in the membership of s, it votes at once (its vote for s is BALLOT and c [..])" */
    private static void proposeAsAMember() {
        MajorityMap x = Play.ledBy(2);
        x.ask(Play.ADD, 0, 1);
        x.send(1, 2);
        CHECK.due("its vote", x.vote(2, 1), 64 * 7 + 1);
        CHECK.due("it is among those who voted", Play.collectVote(x, 2, 0, 1), 4);
    }

    /** "if it is itself in the membership of s": not if it is no member */
    private static void proposeAsNoMember() {
        MajorityMap x = Play.ledBy(3);
        x.ask(Play.ADD, 0, 1);
        x.send(1, 3);
        CHECK.due("no vote", x.vote(3, 1), 0);
        CHECK.due("nor among those who voted", Play.collectVote(x, 3, 0, 1), 0);
        CHECK.due("two members", Play.collectVote(x, 3, 1, 1), 4);
    }

    /** "then it sends ACCEPT BALLOT, s, c to the other members" */
    private static void proposeToTheMembersOfThatSlot() {
        MajorityMap x = Play.ofMembership(22);
        x.timer(0);
        Play.settle(x);
        x.send(x.ask(Play.ADD, 0, 1), 0);
        CHECK.due("three members", x.waiting(), 3);
        int[] members = {1, 2, 4};
        for (int i = 0; i < 3; i++) {
            Play.dueMessage(CHECK, "accept", x, i, Play.ACCEPT, 0, members[i], 4, 0, 4);
        }
    }
}
