/**
 * The sentences of the document's "Terms" on what a receiver does with each kind of message: each case that a sentence
 * sets apart has a test of its own. INSTALL, GO ON and PROPOSE are in GoOnEdgeTest.
 *
 * One case can't be brought about by calls: a VOTED for BALLOT and a slot for which nothing is proposed, as it answers
 * an ACCEPT that only a proposal of that very campaign sends. It is in HiddenEdgeTest, with forged messages.
 */
public final class MessageEdgeTest {
    private static final Check CHECK = new Check("MessageEdgeTest");

    public static void main(String[] args) {
        prepare();
        promise();
        accept();
        voted();
        learn();
        refuse();
        fetchAndState();
        CHECK.end();
    }

    private static void prepare() {
        prepareBelowPromised();
        prepareOfPromisedItself();
        prepareAbovePromised();
        prepareTellsVotesAndSnapshot();
    }

    private static void promise() {
        promiseWithoutACampaign();
        promiseForACampaignThatIsOver();
        promiseOfAnOlderBallot();
        promiseInstallsTheSnapshot();
        promiseHeardTwice();
        promisedVoteWhereNoneIs();
        promisedVoteOfAGreaterBallot();
        promisedVoteOfALesserBallot();
    }

    private static void accept() {
        acceptBelowPromised();
        acceptOfPromisedItself();
        acceptAbovePromised();
        acceptAtFloor();
        acceptBelowFloor();
        acceptJustAboveFloor();
        acceptRaisesPromisedBelowFloorToo();
        acceptRefusedBelowFloor();
        acceptTakesThePlaceOfAVote();
    }

    private static void voted() {
        votedWithoutACampaign();
        votedForACampaignThatIsOver();
        votedOfAnOlderBallot();
        votedUpToExecuted();
        votedForAKnownSlot();
        votedByTooFew();
        votedByEnough();
    }

    private static void learn() {
        learnUpToExecuted();
        learnOfAKnownSlot();
        learnOfTheNextSlot();
        learnOfTheLastSlot();
    }

    private static void refuse() {
        refuseOfAGreaterBallot();
        refuseOfPromisedItself();
        refuseOfALesserBallot();
    }

    private static void fetchAndState() {
        fetchByOneBehind();
        fetchByOneAsFar();
        fetchByOneAhead();
        stateGoesOn();
        stateGoesOnProposing();
    }

    /** "1 PREPARE ballot b. If b < PROMISED: it sends REFUSE PROMISED to the sender." */
    private static void prepareBelowPromised() {
        MajorityMap x = new MajorityMap();
        x.timer(0);
        x.timer(1);
        Play.deliver(x, Play.PREPARE, 1, 2);
        CHECK.due("5 after 6", Play.deliver(x, Play.PREPARE, 0, 2), 1);
        Play.dueNewest(CHECK, "refused", x, Play.REFUSE, 2, 0, 6, 0, 0);
        CHECK.due("PROMISED stays", x.look(2, 1), 6);
    }

    /** "Otherwise PROMISED becomes b and it sends PROMISE b", b = PROMISED */
    private static void prepareOfPromisedItself() {
        MajorityMap x = new MajorityMap();
        x.timer(1);
        x.copy(1);
        Play.deliver(x, Play.PREPARE, 1, 2);
        CHECK.due("6 after 6", Play.deliver(x, Play.PREPARE, 1, 2), 1);
        Play.dueNewest(CHECK, "promised again", x, Play.PROMISE, 2, 1, 6, 0, 0);
        CHECK.due("PROMISED", x.look(2, 1), 6);
    }

    /** "Otherwise PROMISED becomes b and it sends PROMISE b", b > PROMISED */
    private static void prepareAbovePromised() {
        MajorityMap x = new MajorityMap();
        x.timer(0);
        x.timer(1);
        Play.deliver(x, Play.PREPARE, 0, 2);
        CHECK.due("6 after 5", Play.deliver(x, Play.PREPARE, 1, 2), 1);
        Play.dueNewest(CHECK, "promised", x, Play.PROMISE, 2, 1, 6, 0, 0);
        CHECK.due("PROMISED", x.look(2, 1), 6);
        CHECK.due("also by one that campaigns", Play.deliver(x, Play.PREPARE, 1, 0), 1);
        Play.dueLook(CHECK, "whose campaign is over", x, 0, 1, 6, 0, 0, 0, 0, 7, 0);
    }

    /** "with its votes and its snapshot to the sender" */
    private static void prepareTellsVotesAndSnapshot() {
        MajorityMap x = Play.ledThrough(0, 3);
        Play.bounce(x, 3);
        x.timer(3);
        Play.deliver(x, Play.PREPARE, 3, 1);
        Play.dueNewest(CHECK, "never cut: three votes", x, Play.PROMISE, 1, 3, 8, 3, 0);
        Play.deliver(x, Play.PROMISE, 1, 3);
        CHECK.due("and no slot, whatever is executed", x.look(3, 3), 0);
        x.cut(2);
        Play.deliver(x, Play.PREPARE, 3, 2);
        Play.dueNewest(CHECK, "cut: no vote", x, Play.PROMISE, 2, 3, 8, 0, 0);
        Play.deliver(x, Play.PROMISE, 2, 3);
        Play.dueLook(CHECK, "and three slots", x, 3, 1, 8, 3, 3);
    }

    /** "2 PROMISE b. Nothing, if it does not campaign", no campaign */
    private static void promiseWithoutACampaign() {
        MajorityMap x = Play.ledThrough(0, 1);
        x.cut(1);
        Play.bounce(x, 3);
        x.timer(3);
        Play.deliver(x, Play.PREPARE, 3, 1);
        Play.bounce(x, 3);
        CHECK.due("nothing is sent", Play.deliver(x, Play.PROMISE, 1, 3), 0);
        Play.dueLook(CHECK, "nor installed", x, 3, 1, 8, 0, 0, 0, 0, 7, 0);
    }

    /** "Nothing, if it does not campaign", though b is the BALLOT of its campaign that is over */
    private static void promiseForACampaignThatIsOver() {
        MajorityMap x = Play.ledThrough(0, 1);
        x.cut(1);
        Play.bounce(x, 2);
        x.timer(2);
        Play.deliver(x, Play.PREPARE, 2, 1);
        x.timer(3);
        Play.deliver(x, Play.PREPARE, 3, 2);
        Play.deliver(x, Play.PROMISE, 1, 2);
        Play.dueLook(CHECK, "nothing is installed", x, 2, 1, 8, 0, 0, 0, 0, 7, 0);
    }

    /** "Nothing, if [..] b is not BALLOT." */
    private static void promiseOfAnOlderBallot() {
        MajorityMap x = Play.ledBy(3);
        x.ask(Play.ADD, 0, 1);
        x.send(1, 3);
        Play.deliver(x, Play.ACCEPT, 3, 1);
        Play.dropAll(x);
        x.timer(4);
        Play.deliver(x, Play.PREPARE, 4, 1);
        Play.dueNewest(CHECK, "a promise of 9 with a vote", x, Play.PROMISE, 1, 4, 9, 1, 0);
        Play.bounce(x, 4);
        x.timer(4);
        CHECK.due("BALLOT", x.look(4, 4), 14);
        CHECK.due("nothing is sent", Play.deliver(x, Play.PROMISE, 1, 4), 0);
        CHECK.due("HEARD", x.look(4, 7), 16);
        Play.dropAll(x);
        x.timer(4);
        Play.collectPromise(x, 4, 0);
        CHECK.due("nor was the vote collected", Play.collectPromise(x, 4, 2), 0);
    }

    /** "Otherwise: it INSTALLS the snapshot" */
    private static void promiseInstallsTheSnapshot() {
        MajorityMap x = Play.ledThrough(0, 2);
        x.cut(1);
        Play.bounce(x, 4);
        x.timer(4);
        Play.collectPromise(x, 4, 1);
        Play.dueLook(CHECK, "installed", x, 4, 1, 9, 2, 2, 9, 0, 7, 18);
        CHECK.due("the value", x.value(4, 0), 2);
        CHECK.due("the client hears nothing by that", x.heard(1), 1);
    }

    /** "the sender is put into HEARD": a set */
    private static void promiseHeardTwice() {
        MajorityMap x = new MajorityMap();
        x.timer(4);
        Play.deliver(x, Play.PREPARE, 4, 1);
        x.copy(Play.find(x, Play.PROMISE, 1, 4));
        Play.deliver(x, Play.PROMISE, 1, 4);
        CHECK.due("HEARD", x.look(4, 7), 18);
        Play.deliver(x, Play.PROMISE, 1, 4);
        CHECK.due("the same", x.look(4, 7), 18);
        CHECK.due("one of three members does not make a leader", x.look(4, 5), 0);
    }

    /** "each vote that came replaces COLLECTED's for its slot, if there is none" */
    private static void promisedVoteWhereNoneIs() {
        MajorityMap x = Play.proposing(2);
        Play.deliver(x, Play.ACCEPT, 0, 1, 2);
        Play.dropAll(x);
        x.timer(4);
        Play.collectPromise(x, 4, 1);
        CHECK.due("to three members for slots 1 and 2", Play.collectPromise(x, 4, 2), 6);
        Play.dueNewest(CHECK, "slot 2", x, Play.ACCEPT, 4, 2, 2, 0, 2);
    }

    /** Replica 0 voted for request 1 with ballot 5, replica 1 for request 2 with ballot 6, both in slot 1. */
    private static MajorityMap divided() {
        MajorityMap x = Play.proposing(1);
        x.ask(Play.ADD, 0, 2);
        Play.dropAll(x);
        x.timer(1);
        Play.collectPromise(x, 1, 2);
        x.send(2, 1);
        Play.dropAll(x);
        x.timer(4);
        return x;
    }

    /** "each vote that came replaces COLLECTED's for its slot, if [..] its ballot is less" */
    private static void promisedVoteOfAGreaterBallot() {
        MajorityMap x = divided();
        Play.collectPromise(x, 4, 0);
        CHECK.due("5 came first", Play.collectPromise(x, 4, 1), 3);
        Play.dueNewest(CHECK, "6 is proposed", x, Play.ACCEPT, 4, 2, 1, 0, 2);
    }

    /** "if there is none or its ballot is less": not if it is greater */
    private static void promisedVoteOfALesserBallot() {
        MajorityMap x = divided();
        Play.collectPromise(x, 4, 1);
        CHECK.due("6 came first", Play.collectPromise(x, 4, 0), 3);
        Play.dueNewest(CHECK, "6 is proposed", x, Play.ACCEPT, 4, 2, 1, 0, 2);
    }

    /** "3 ACCEPT b, slot s, command c. If b < PROMISED: it sends REFUSE PROMISED to the sender." */
    private static void acceptBelowPromised() {
        MajorityMap x = Play.proposing(1);
        x.timer(1);
        Play.deliver(x, Play.PREPARE, 1, 2);
        CHECK.due("5 after 6", Play.deliver(x, Play.ACCEPT, 0, 2), 1);
        Play.dueNewest(CHECK, "refused", x, Play.REFUSE, 2, 0, 6, 0, 0);
        CHECK.due("no vote", x.vote(2, 1), 0);
        CHECK.due("PROMISED", x.look(2, 1), 6);
    }

    /** "Otherwise PROMISED becomes b", b = PROMISED */
    private static void acceptOfPromisedItself() {
        MajorityMap x = Play.proposing(1);
        CHECK.due("PROMISED", x.look(2, 1), 5);
        CHECK.due("5 after 5", Play.deliver(x, Play.ACCEPT, 0, 2), 1);
        Play.dueNewest(CHECK, "voted", x, Play.VOTED, 2, 0, 1, 0, 0);
        CHECK.due("the vote", x.vote(2, 1), 64 * 5 + 1);
    }

    /** "Otherwise PROMISED becomes b", b > PROMISED */
    private static void acceptAbovePromised() {
        MajorityMap x = new MajorityMap();
        x.ask(Play.ADD, 0, 1);
        x.timer(1);
        Play.collectPromise(x, 1, 0);
        Play.dropAll(x);
        x.send(1, 1);
        CHECK.due("PROMISED", x.look(2, 1), 0);
        CHECK.due("6 after 0", Play.deliver(x, Play.ACCEPT, 1, 2), 1);
        CHECK.due("PROMISED then", x.look(2, 1), 6);
        CHECK.due("the vote", x.vote(2, 1), 64 * 6 + 1);
    }

    /** Replica 2 has executed slots 1 to 3 and cut after slot 2; an ACCEPT for each of the three still waits. */
    private static MajorityMap cutAtSlot2() {
        MajorityMap x = Play.proposing(3);
        for (int s = 1; s <= 3; s++) {
            Play.collectVote(x, 0, 1, s);
            Play.deliver(x, Play.LEARN, 0, 2, s);
            if (s == 2) {
                x.cut(2);
            }
        }
        Play.dueLook(CHECK, "cut at slot 2", x, 2, 1, 5, 2, 3);
        return x;
    }

    /** "if s <= FLOOR, it sends STATE with its snapshot to the sender", s = FLOOR */
    private static void acceptAtFloor() {
        MajorityMap x = cutAtSlot2();
        CHECK.due("slot 2", Play.deliver(x, Play.ACCEPT, 0, 2, 2), 1);
        Play.dueNewest(CHECK, "the snapshot, not the present state", x, Play.STATE, 2, 0, 2, 2, 0);
        CHECK.due("no vote", x.vote(2, 2), 0);
    }

    /** "if s <= FLOOR, it sends STATE with its snapshot to the sender", s < FLOOR */
    private static void acceptBelowFloor() {
        MajorityMap x = cutAtSlot2();
        CHECK.due("slot 1", Play.deliver(x, Play.ACCEPT, 0, 2, 1), 1);
        Play.dueNewest(CHECK, "the whole snapshot", x, Play.STATE, 2, 0, 2, 2, 0);
        CHECK.due("no vote", x.vote(2, 1), 0);
    }

    /** "otherwise its vote for s becomes b and c, and it sends VOTED b, s to the sender", s = FLOOR + 1 */
    private static void acceptJustAboveFloor() {
        MajorityMap x = cutAtSlot2();
        CHECK.due("slot 3", Play.deliver(x, Play.ACCEPT, 0, 2, 3), 1);
        Play.dueNewest(CHECK, "voted", x, Play.VOTED, 2, 0, 3, 0, 0);
        CHECK.due("the vote", x.vote(2, 3), 64 * 5 + 3);
    }

    /** Replica 1 has slot 1 in its snapshot; replica 4, which has not heard of it, proposes for it with ballot 9. */
    private static MajorityMap proposedBelowFloor() {
        MajorityMap x = Play.proposing(1);
        Play.collectVote(x, 0, 1, 1);
        Play.deliver(x, Play.LEARN, 0, 1);
        Play.dropAll(x);
        x.cut(1);
        x.timer(4);
        Play.collectPromise(x, 4, 0);
        CHECK.due("slot 1 again", Play.collectPromise(x, 4, 2), 3);
        return x;
    }

    /** "Otherwise PROMISED becomes b, and: if s <= FLOOR, [..]" */
    private static void acceptRaisesPromisedBelowFloorToo() {
        MajorityMap x = proposedBelowFloor();
        CHECK.due("PROMISED", x.look(1, 1), 5);
        Play.deliver(x, Play.ACCEPT, 4, 1);
        Play.dueNewest(CHECK, "the snapshot", x, Play.STATE, 1, 4, 1, 1, 0);
        CHECK.due("PROMISED then", x.look(1, 1), 9);
    }

    /** "If b < PROMISED: it sends REFUSE PROMISED to the sender. Otherwise [..] if s <= FLOOR": in this order */
    private static void acceptRefusedBelowFloor() {
        MajorityMap x = proposedBelowFloor();
        x.timer(1);
        Play.bounce(x, 1);
        x.timer(1);
        CHECK.due("PROMISED", x.look(1, 1), 11);
        Play.deliver(x, Play.ACCEPT, 4, 1);
        Play.dueNewest(CHECK, "refused", x, Play.REFUSE, 1, 4, 11, 0, 0);
    }

    /** "its vote for s becomes b and c", where there is a vote */
    private static void acceptTakesThePlaceOfAVote() {
        MajorityMap x = divided();
        Play.collectPromise(x, 4, 1);
        Play.collectPromise(x, 4, 2);
        CHECK.due("the vote", x.vote(0, 1), 64 * 5 + 1);
        Play.deliver(x, Play.ACCEPT, 4, 0);
        CHECK.due("the vote then", x.vote(0, 1), 64 * 9 + 2);
    }

    /** "4 VOTED b, slot s. Nothing, if it does not campaign", no campaign */
    private static void votedWithoutACampaign() {
        MajorityMap x = Play.proposing(1);
        Play.deliver(x, Play.ACCEPT, 0, 1);
        Play.bounce(x, 0);
        CHECK.due("nothing is sent", Play.deliver(x, Play.VOTED, 1, 0), 0);
        CHECK.due("nothing is executed", x.look(0, 3), 0);
    }

    /** "Nothing, if it does not campaign", though b is the BALLOT of its campaign that is over */
    private static void votedForACampaignThatIsOver() {
        MajorityMap x = Play.proposing(1);
        Play.deliver(x, Play.ACCEPT, 0, 1);
        x.timer(3);
        Play.deliver(x, Play.PREPARE, 3, 0);
        CHECK.due("nothing is sent", Play.deliver(x, Play.VOTED, 1, 0), 0);
        CHECK.due("nothing is executed", x.look(0, 3), 0);
    }

    /** "Nothing, if [..] b is not BALLOT" */
    private static void votedOfAnOlderBallot() {
        MajorityMap x = Play.proposing(1);
        Play.deliver(x, Play.ACCEPT, 0, 1);
        Play.bounce(x, 0);
        x.timer(0);
        CHECK.due("proposed again with ballot 10", Play.collectPromise(x, 0, 2), 2);
        CHECK.due("a vote for ballot 5", Play.deliver(x, Play.VOTED, 1, 0), 0);
        CHECK.due("nothing is executed", x.look(0, 3), 0);
        CHECK.due("its clock still asks both for slot 1", x.timer(0), 3);
    }

    /** "Nothing, if [..] s <= e", also where the leader has cut and does not hold s as known any more */
    private static void votedUpToExecuted() {
        MajorityMap x = Play.proposing(2);
        for (int s = 1; s <= 2; s++) {
            Play.collectVote(x, 0, 1, s);
            Play.deliver(x, Play.ACCEPT, 0, 2, s);
            x.copy(Play.find(x, Play.VOTED, 2, 0, s));
        }
        CHECK.due("executed", x.look(0, 3), 2);
        CHECK.due("s < e", Play.deliver(x, Play.VOTED, 2, 0, 1), 0);
        CHECK.due("s = e", Play.deliver(x, Play.VOTED, 2, 0, 2), 0);
        x.cut(0);
        CHECK.due("s < e after the cut", Play.deliver(x, Play.VOTED, 2, 0, 1), 0);
        CHECK.due("s = e after the cut", Play.deliver(x, Play.VOTED, 2, 0, 2), 0);
        CHECK.due("request 1 was heard once", x.heard(1), 1);
        CHECK.due("request 2 was heard once", x.heard(2), 1);
    }

    /** "Nothing, if [..] s is known" */
    private static void votedForAKnownSlot() {
        MajorityMap x = Play.proposing(2);
        CHECK.due("slot 2 is known, slot 1 is not", Play.collectVote(x, 0, 1, 2), 4);
        CHECK.due("one vote more", Play.collectVote(x, 0, 2, 2), 0);
        CHECK.due("EXECUTED", x.look(0, 3), 0);
    }

    /** "if these hold a majority of the membership of s": they do not yet */
    private static void votedByTooFew() {
        MajorityMap x = Play.ledBy(3);
        x.ask(Play.ADD, 0, 1);
        x.send(1, 3);
        CHECK.due("one of three", Play.collectVote(x, 3, 1, 1), 0);
        CHECK.due("nothing is known", x.look(3, 3), 0);
        Play.dropAll(x);
        CHECK.due("it is put among those who voted: two are left", x.timer(3), 2);
        Play.dueMessage(CHECK, "the first", x, 0, Play.ACCEPT, 3, 0, 1, 0, 1);
        Play.dueMessage(CHECK, "the second", x, 1, Play.ACCEPT, 3, 2, 1, 0, 1);
    }

    /** "the proposed command becomes known for s, it sends LEARN s with the command to all the other replicas" */
    private static void votedByEnough() {
        MajorityMap x = Play.proposing(1);
        x.crash(3);
        CHECK.due("to members or not, up or down", Play.collectVote(x, 0, 1, 1), 4);
        for (int to = 1; to <= 4; to++) {
            Play.dueMessage(CHECK, "learn", x, to, Play.LEARN, 0, to, 1, 0, 1);
        }
        CHECK.due("it goes on", x.look(0, 3), 1);
    }

    /** "5 LEARN slot s, command c. Nothing, if s <= e" */
    private static void learnUpToExecuted() {
        MajorityMap x = Play.proposing(2);
        for (int s = 1; s <= 2; s++) {
            Play.collectVote(x, 0, 1, s);
            x.copy(Play.find(x, Play.LEARN, 0, 3, s));
            Play.deliver(x, Play.LEARN, 0, 3, s);
        }
        CHECK.due("executed", x.look(3, 3), 2);
        x.cut(3);
        x.timer(3);
        CHECK.due("s < e", Play.deliver(x, Play.LEARN, 0, 3, 1), 0);
        CHECK.due("s = e", Play.deliver(x, Play.LEARN, 0, 3, 2), 0);
        Play.dueLook(CHECK, "nothing has changed", x, 3, 1, 8, 2, 2);
        CHECK.due("the value", x.value(3, 0), 3);
        CHECK.due("request 1 was heard once", x.heard(1), 1);
        CHECK.due("request 2 was heard once", x.heard(2), 1);
    }

    /** "Nothing, if [..] s is known." */
    private static void learnOfAKnownSlot() {
        MajorityMap x = Play.proposing(2);
        Play.collectVote(x, 0, 1, 2);
        x.copy(Play.find(x, Play.LEARN, 0, 3));
        CHECK.due("once", Play.deliver(x, Play.LEARN, 0, 3, 2), 0);
        CHECK.due("twice", Play.deliver(x, Play.LEARN, 0, 3, 2), 0);
        CHECK.due("EXECUTED", x.look(3, 3), 0);
        Play.collectVote(x, 0, 1, 1);
        Play.deliver(x, Play.LEARN, 0, 3, 1);
        CHECK.due("EXECUTED then", x.look(3, 3), 2);
        CHECK.due("the value", x.value(3, 0), 3);
    }

    /** "Otherwise c is known for s, and it GOES ON." */
    private static void learnOfTheNextSlot() {
        MajorityMap x = Play.proposing(1);
        Play.collectVote(x, 0, 1, 1);
        Play.deliver(x, Play.LEARN, 0, 4);
        Play.dueLook(CHECK, "executed", x, 4, 1, 0, 0, 1);
        CHECK.due("the value", x.value(4, 0), 1);
    }

    /** "Otherwise c is known for s", s = 24 */
    private static void learnOfTheLastSlot() {
        MajorityMap x = Play.ledThrough(0, 22);
        x.ask(Play.ADD, 0, 100);
        x.ask(Play.ADD, 0, 1000);
        x.send(23, 0);
        x.send(24, 0);
        Play.collectVote(x, 0, 1, 24);
        Play.deliver(x, Play.LEARN, 0, 4, 24);
        CHECK.due("not executed", x.look(4, 3), 22);
        Play.collectVote(x, 0, 1, 23);
        Play.deliver(x, Play.LEARN, 0, 4, 23);
        CHECK.due("executed to the end", x.look(4, 3), 24);
        CHECK.due("the value", x.value(4, 0), 1122);
    }

    /** "6 REFUSE c: PROMISED becomes c if c is greater." */
    private static void refuseOfAGreaterBallot() {
        MajorityMap x = new MajorityMap();
        x.timer(0);
        x.timer(1);
        Play.deliver(x, Play.PREPARE, 1, 2);
        Play.deliver(x, Play.PREPARE, 0, 2);
        CHECK.due("6 to one of 5", Play.deliver(x, Play.REFUSE, 2, 0), 0);
        Play.dueLook(CHECK, "its campaign is over", x, 0, 1, 6, 0, 0, 0, 0, 7, 0);
        MajorityMap y = Play.ledThrough(0, 1);
        y.send(y.ask(Play.ADD, 0, 1), 0);
        y.timer(1);
        Play.deliver(y, Play.PREPARE, 1, 2);
        Play.deliver(y, Play.ACCEPT, 0, 2);
        CHECK.due("nothing is sent by one that has executed a slot", Play.deliver(y, Play.REFUSE, 2, 0), 0);
        Play.dueLook(CHECK, "its leadership is over", y, 0, 1, 6, 0, 1, 0, 0, 7, 0);
    }

    /** "PROMISED becomes c if c is greater": a late PREPARE is refused with the sender's own newer ballot */
    private static void refuseOfPromisedItself() {
        MajorityMap x = new MajorityMap();
        x.timer(0);
        Play.bounce(x, 0);
        x.timer(0);
        int newer = 2;
        CHECK.due("a PREPARE of 10", x.message(newer, 3), 10);
        x.deliver(newer);
        CHECK.due("a PREPARE of 5", Play.deliver(x, Play.PREPARE, 0, 1), 1);
        Play.dueNewest(CHECK, "refused", x, Play.REFUSE, 1, 0, 10, 0, 0);
        Play.deliver(x, Play.REFUSE, 1, 0);
        Play.dueLook(CHECK, "it campaigns as before", x, 0, 1, 10, 0, 0, 10, 0, 7, 1);
        Play.deliver(x, Play.PROMISE, 1, 0);
        CHECK.due("and leads", x.look(0, 5), 1);
    }

    /** "PROMISED becomes c if c is greater": not if it is less */
    private static void refuseOfALesserBallot() {
        MajorityMap x = new MajorityMap();
        x.timer(0);
        x.timer(1);
        Play.deliver(x, Play.PREPARE, 1, 2);
        Play.deliver(x, Play.PREPARE, 0, 2);
        Play.bounce(x, 0);
        x.timer(0);
        CHECK.due("BALLOT", x.look(0, 4), 10);
        Play.deliver(x, Play.REFUSE, 2, 0);
        Play.dueLook(CHECK, "it campaigns as before", x, 0, 1, 10, 0, 0, 10, 0, 7, 1);
    }

    /** "7 FETCH f: if e > f, it sends STATE with its present state to the sender.", e = f + 1 */
    private static void fetchByOneBehind() {
        MajorityMap x = Play.ledThrough(0, 1);
        x.cut(0);
        x.ask(Play.ADD, 0, 1);
        x.send(2, 0);
        Play.collectVote(x, 0, 1, 2);
        x.fetch(3, 0);
        CHECK.due("answered", Play.deliver(x, Play.FETCH, 3, 0), 1);
        Play.dueNewest(CHECK, "the present state, not the snapshot", x, Play.STATE, 0, 3, 2, 2, 0);
    }

    /** "if e > f", e = f */
    private static void fetchByOneAsFar() {
        MajorityMap x = new MajorityMap();
        x.fetch(3, 0);
        CHECK.due("0 and 0", x.deliver(0), 0);
        MajorityMap y = Play.ledThrough(0, 2);
        y.fetch(3, 0);
        CHECK.due("2 and 2", y.deliver(0), 0);
        CHECK.due("nothing waits", y.waiting(), 0);
    }

    /** "if e > f", e < f */
    private static void fetchByOneAhead() {
        MajorityMap x = Play.ledThrough(0, 1);
        Play.bounce(x, 4);
        x.fetch(0, 4);
        CHECK.due("0 and 1", x.deliver(0), 0);
        CHECK.due("nothing waits", x.waiting(), 0);
    }

    /** "8 STATE: it INSTALLS what came, and GOES ON.", executing */
    private static void stateGoesOn() {
        MajorityMap x = Play.proposing(2);
        Play.collectVote(x, 0, 1, 1);
        x.fetch(4, 0);
        Play.deliver(x, Play.FETCH, 4, 0);
        Play.collectVote(x, 0, 1, 2);
        Play.deliver(x, Play.LEARN, 0, 4, 2);
        CHECK.due("slot 2 is known", x.look(4, 3), 0);
        x.timer(4);
        Play.deliver(x, Play.STATE, 0, 4);
        Play.dueLook(CHECK, "and executed", x, 4, 1, 9, 1, 2);
        CHECK.due("the client does not hear of what was installed", x.heard(1), 1);
        CHECK.due("but of what was executed, as replica 4 campaigns", x.heard(2), 2);
    }

    /** "8 STATE: it INSTALLS what came, and GOES ON.", proposing */
    private static void stateGoesOnProposing() {
        MajorityMap x = Play.proposing(3);
        Play.collectVote(x, 0, 1, 1);
        x.send(x.ask(Play.ADD, 0, 4), 0);
        Play.deliver(x, Play.ACCEPT, 0, 1, 4);
        x.timer(4);
        Play.collectPromise(x, 4, 1);
        CHECK.due("slots 1, 2 and 3", Play.collectPromise(x, 4, 2), 9);
        Play.dropAll(x);
        x.fetch(4, 0);
        Play.deliver(x, Play.FETCH, 4, 0);
        CHECK.due("slot 1 is installed, so slot 4 is near", Play.deliver(x, Play.STATE, 0, 4), 3);
        Play.dueNewest(CHECK, "slot 4", x, Play.ACCEPT, 4, 2, 4, 0, 4);
    }
}
