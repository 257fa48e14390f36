/** The sentences of promises 1 to 4 that name a boundary case, each with a test of its own. */
public final class CallEdgeTest {
    private static final Check CHECK = new Check("CallEdgeTest");
    private static final int[] NO_REPLICA = {-1, 5, Integer.MIN_VALUE, Integer.MAX_VALUE};

    public static void main(String[] args) {
        newObject();
        ask();
        send();
        timer();
        CHECK.end();
    }

    private static void ask() {
        askKinds();
        askKeys();
        askMemberships();
        askAnyNumber();
        askFortyOnly();
    }

    private static void send() {
        sendNoRequest();
        sendNoReplica();
        sendToOneThatIsDown();
        sendWhatIsDone();
        sendWithoutACampaign();
        sendWhatIsKnown();
        sendWhatIsProposed();
        sendWhatIsProposedWhereAnotherIsKnown();
        sendWhatWasProposedUpToE();
        sendTakesTheLeastOpenSlot();
        sendTakesTheSlotAboveTheSnapshot();
        sendWaitsForTheLeastOpenSlot();
        sendTooFarAhead();
        sendAboveTheLastSlot();
        sendWithTooFewHeard();
        sendWhileTheNetIsFull();
        sendTestsInOrder();
    }

    private static void timer() {
        timerOfNoReplica();
        timerOfOneThatIsDown();
        timerTakesTheLeastBallot();
        timerAsksOthersAlone();
        timerAsksHelpersAboveTheLastSlot();
        timerBeginsWithItselfAlone();
        timerCollectsItsOwnVotesAlone();
        timerForgetsWhoVoted();
        timerLeavesOutWhoWasHeard();
        timerSendsPrepareBeforeAccept();
        timerLeavesOutWhoVoted();
        timerLeavesOutWhatIsKnown();
        timerLeavesOutWhoIsNoMember();
        timerRepeatsTheLastSlot();
        timerCountsWhatWasNotLost();
    }

    /** Replica 0 leads, and requests 1 .. many of ADD 1 to key 0 are asked. */
    private static MajorityMap asked(int many) {
        MajorityMap x = Play.ledBy(0);
        for (int q = 1; q <= many; q++) {
            x.ask(Play.ADD, 0, 1);
        }
        return x;
    }

    /** Promise 1: "No requests, an empty net, all replicas up as said at first." */
    private static void newObject() {
        MajorityMap x = new MajorityMap();
        CHECK.due("no requests", x.send(1, 0), -1);
        CHECK.due("an empty net", x.waiting(), 0);
        CHECK.due("none waits", x.message(0, 0), -1);
        for (int r = 0; r < 5; r++) {
            Play.dueLook(CHECK, "at first", x, r, 1, 0, 0, 0, 0, 0, 7, 0);
        }
        CHECK.due("the first request", x.ask(Play.READ, 0, 0), 1);
    }

    /** Promise 2: "-1 if kind is not 0 .. 4" */
    private static void askKinds() {
        MajorityMap x = new MajorityMap();
        for (int kind : new int[] {-1, 5, Integer.MIN_VALUE, Integer.MAX_VALUE}) {
            CHECK.due("kind " + kind, x.ask(kind, 0, 7), -1);
        }
        CHECK.due("kind 0", x.ask(0, 0, 7), 1);
        CHECK.due("kind 4", x.ask(4, 0, 7), 2);
    }

    /** Promise 2: "key is not 0 .. 3", of each kind */
    private static void askKeys() {
        MajorityMap x = new MajorityMap();
        int number = 0;
        for (int kind = 0; kind <= 4; kind++) {
            for (int key : new int[] {-1, 4, Integer.MIN_VALUE, Integer.MAX_VALUE}) {
                CHECK.due("kind " + kind + ", key " + key, x.ask(kind, key, 7), -1);
            }
            CHECK.due("kind " + kind + ", key 0", x.ask(kind, 0, 7), ++number);
            CHECK.due("kind " + kind + ", key 3", x.ask(kind, 3, 7), ++number);
        }
    }

    /** Promise 2: "kind is 4 and v is not a membership" */
    private static void askMemberships() {
        MajorityMap x = new MajorityMap();
        int number = 0;
        for (int v = -40; v <= 70; v++) {
            boolean isOne = v == 1 || v == 2 || v == 4 || v == 8 || v == 16;
            boolean isMembership = v > 0 && v < 32 && !isOne;
            CHECK.due("MEMBERS " + v, x.ask(Play.MEMBERS, 0, v), isMembership ? ++number : -1);
        }
        for (int v : new int[] {Integer.MIN_VALUE, Integer.MIN_VALUE + 7, Integer.MAX_VALUE, 256 + 7}) {
            CHECK.due("MEMBERS " + v, x.ask(Play.MEMBERS, 0, v), -1);
        }
    }

    /** Promise 2: "kind is 4 and v is not a membership": for the other kinds v may be anything */
    private static void askAnyNumber() {
        MajorityMap x = new MajorityMap();
        int number = 0;
        for (int kind = 0; kind <= 3; kind++) {
            for (int v : new int[] {0, -1, 16, 32, Integer.MIN_VALUE, Integer.MAX_VALUE}) {
                CHECK.due("kind " + kind + ", v " + v, x.ask(kind, 0, v), ++number);
            }
        }
    }

    /** Promise 2: "or there are 40 already" */
    private static void askFortyOnly() {
        MajorityMap x = new MajorityMap();
        for (int q = 1; q <= 39; q++) {
            x.ask(Play.READ, 0, 0);
        }
        CHECK.due("39 are there", x.ask(Play.READ, 0, 0), 40);
        for (int kind = 0; kind <= 4; kind++) {
            CHECK.due("40 are there, kind " + kind, x.ask(kind, 0, 7), -1);
        }
    }

    /** Promise 3: "-1 if there is no request q" */
    private static void sendNoRequest() {
        CHECK.due("none is asked", Play.ledBy(0).send(1, 0), -1);
        MajorityMap x = asked(2);
        for (int q : new int[] {0, -1, 3, 40, 41, Integer.MIN_VALUE, Integer.MAX_VALUE}) {
            CHECK.due("request " + q, x.send(q, 0), -1);
        }
        CHECK.due("the first", x.send(1, 0), 2);
        CHECK.due("the last", x.send(2, 0), 2);
    }

    /** Promise 3: "or no replica r" */
    private static void sendNoReplica() {
        MajorityMap x = asked(1);
        for (int r : NO_REPLICA) {
            CHECK.due("replica " + r, x.send(1, r), -1);
        }
        CHECK.due("replica 4", x.send(1, 4), 0);
        CHECK.due("replica 0", x.send(1, 0), 2);
    }

    /** Promise 3: "0 if r is down" */
    private static void sendToOneThatIsDown() {
        MajorityMap x = Play.ledThrough(0, 1);
        x.cut(1);
        x.crash(1);
        CHECK.due("though it is done in its snapshot", x.send(1, 1), 0);
        CHECK.due("heard", x.heard(1), 1);
    }

    /** Promise 3: "if q is done in r's present state, the client hears its answer there: 1" */
    private static void sendWhatIsDone() {
        MajorityMap x = Play.ledThrough(0, 2);
        CHECK.due("at the leader", x.send(1, 0), 1);
        CHECK.due("at one that never campaigned", x.send(1, 4), 1);
        CHECK.due("heard", x.heard(1), 3);
        CHECK.due("the answer it had then", x.reply(1), 1);
        Play.bounce(x, 4);
        CHECK.due("where it is done no more", x.send(1, 4), 0);
        CHECK.due("heard as before", x.heard(1), 3);
        CHECK.due("nothing waits", x.waiting(), 0);
    }

    /** Promise 3: "0 if r does not campaign" */
    private static void sendWithoutACampaign() {
        MajorityMap x = asked(1);
        CHECK.due("at one that never did", x.send(1, 1), 0);
        x.timer(2);
        Play.deliver(x, Play.PREPARE, 2, 0);
        CHECK.due("at one whose campaign is over", x.send(1, 0), 0);
        Play.bounce(x, 2);
        CHECK.due("at one that forgot its campaign", x.send(1, 2), 0);
        CHECK.due("no vote", x.vote(0, 1), 0);
    }

    /** Promise 3: "3 if q is known [..] at r for a slot above e" */
    private static void sendWhatIsKnown() {
        MajorityMap x = asked(3);
        x.send(1, 0);
        x.send(2, 0);
        x.send(3, 0);
        Play.collectVote(x, 0, 1, 3);
        Play.deliver(x, Play.LEARN, 0, 4, 3);
        CHECK.due("known for slot e + 3, but no campaign", x.send(3, 4), 0);
        x.timer(4);
        CHECK.due("known for slot e + 3", x.send(3, 4), 3);
        CHECK.due("another request", x.send(1, 4), 4);
    }

    /** Promise 3: "3 if q is [..] proposed at r for a slot above e" */
    private static void sendWhatIsProposed() {
        MajorityMap x = asked(3);
        for (int q = 1; q <= 3; q++) {
            x.send(q, 0);
        }
        for (int q = 1; q <= 3; q++) {
            CHECK.due("slot " + q, x.send(q, 0), 3);
        }
        CHECK.due("six messages", x.waiting(), 6);
    }

    /** Promise 3: "3 if q is known or proposed at r for a slot above e", though r has since learned another for it */
    private static void sendWhatIsProposedWhereAnotherIsKnown() {
        MajorityMap x = asked(3);
        x.send(1, 0);
        x.send(2, 0);
        Play.dropAll(x);
        x.timer(1);
        Play.collectPromise(x, 1, 2);
        x.send(1, 1);
        x.send(3, 1);
        Play.collectVote(x, 1, 2, 2);
        Play.deliver(x, Play.LEARN, 1, 0, 2);
        CHECK.due("it still campaigns", x.look(0, 4), 5);
        CHECK.due("slot 2 is above e", x.look(0, 3), 0);
        CHECK.due("what is known for slot 2", x.send(3, 0), 3);
        CHECK.due("what was proposed for slot 2", x.send(2, 0), 3);
    }

    /** Promise 3: "for a slot above e": what was proposed for slot e, where another command won, is free again */
    private static void sendWhatWasProposedUpToE() {
        MajorityMap x = asked(2);
        x.send(1, 0);
        Play.dropAll(x);
        x.timer(1);
        Play.collectPromise(x, 1, 2);
        x.send(2, 1);
        Play.collectVote(x, 1, 2, 1);
        CHECK.due("proposed for slot 1", x.send(1, 0), 3);
        Play.deliver(x, Play.LEARN, 1, 0);
        CHECK.due("slot 1 is executed, it still campaigns", x.look(0, 4), 5);
        CHECK.due("the one that won is done", x.send(2, 0), 1);
        CHECK.due("the other is proposed for slot 2", x.send(1, 0), 2);
        CHECK.due("slot 2", x.vote(0, 2), 64 * 5 + 1);
    }

    /** Promise 3: "Let s be the least slot above e that is not known and for which nothing is proposed" */
    private static void sendTakesTheLeastOpenSlot() {
        MajorityMap x = asked(4);
        CHECK.due("slot 1 is open", x.send(1, 0), 2);
        CHECK.due("slot 2 is open", x.send(2, 0), 2);
        Play.collectVote(x, 0, 1, 2);
        CHECK.due("slot 1 is proposed for, slot 2 known", x.send(3, 0), 2);
        CHECK.due("slot 1", x.vote(0, 1), 64 * 5 + 1);
        CHECK.due("slot 2", x.vote(0, 2), 64 * 5 + 2);
        CHECK.due("slot 3", x.vote(0, 3), 64 * 5 + 3);
    }

    /** Promise 3: "the least slot above e": slot e itself, of which nothing is known after a cut, is none */
    private static void sendTakesTheSlotAboveTheSnapshot() {
        MajorityMap x = Play.ledThrough(0, 2);
        x.cut(0);
        Play.bounce(x, 0);
        x.timer(0);
        Play.settle(x);
        CHECK.due("e", x.look(0, 3), 2);
        CHECK.due("proposed", x.send(x.ask(Play.ADD, 0, 1), 0), 2);
        CHECK.due("slot 3", x.vote(0, 3), 64 * 10 + 3);
    }

    /** Promise 3: "Let s be the least slot above e": it is not passed over, though slot e + 2 has its majority */
    private static void sendWaitsForTheLeastOpenSlot() {
        MajorityMap x = Play.ledBy(0);
        Play.perform(x, 0, Play.MEMBERS, 0, 24);
        Play.perform(x, 0, Play.MEMBERS, 0, 7);
        Play.perform(x, 0, Play.READ, 0, 0);
        CHECK.due("slot 4 is of 24", x.look(0, 6), 24);
        CHECK.due("slot 5 is of 7, of which all were heard", x.send(x.ask(Play.READ, 0, 0), 0), 4);
        CHECK.due("no vote for slot 5", x.vote(0, 5), 0);
    }

    /** Promise 3: "4 if s > e + 3" */
    private static void sendTooFarAhead() {
        MajorityMap x = asked(5);
        for (int q = 1; q <= 3; q++) {
            CHECK.due("slot e + " + q, x.send(q, 0), 2);
        }
        CHECK.due("slot e + 4", x.send(4, 0), 4);
        CHECK.due("no vote", x.vote(0, 4), 0);
        Play.collectVote(x, 0, 1, 3);
        CHECK.due("a slot that is known is taken, too", x.send(4, 0), 4);
        Play.collectVote(x, 0, 1, 1);
        CHECK.due("slot 4 is e + 3", x.send(4, 0), 2);
        CHECK.due("slot 5 is e + 4", x.send(5, 0), 4);
    }

    /** Promise 3: "or s > 24" */
    private static void sendAboveTheLastSlot() {
        MajorityMap x = Play.ledThrough(0, 22);
        for (int q = 23; q <= 25; q++) {
            x.ask(Play.ADD, 0, 1);
        }
        CHECK.due("slot 23", x.send(23, 0), 2);
        CHECK.due("slot 24", x.send(24, 0), 2);
        CHECK.due("slot 25 is e + 3", x.send(25, 0), 4);
        Play.settle(x);
        CHECK.due("e", x.look(0, 3), 24);
        CHECK.due("slot 25 is e + 1", x.send(25, 0), 4);
        CHECK.due("nothing waits", x.waiting(), 0);
    }

    /** Promise 3: "or HEARD holds no majority of the membership of s" */
    private static void sendWithTooFewHeard() {
        MajorityMap x = new MajorityMap();
        x.ask(Play.ADD, 0, 1);
        x.timer(0);
        CHECK.due("one of three", x.send(1, 0), 4);
        Play.collectPromise(x, 0, 1);
        CHECK.due("two of three", x.send(1, 0), 2);
        MajorityMap y = Play.ledBy(0);
        Play.perform(y, 0, Play.MEMBERS, 0, 24);
        for (int q = 2; q <= 4; q++) {
            y.ask(Play.ADD, 0, 1);
        }
        CHECK.due("slot 2 is of 7", y.send(2, 0), 2);
        CHECK.due("slot 3 is of 7", y.send(3, 0), 2);
        CHECK.due("slot 4 is of 24, though it leads", y.send(4, 0), 4);
        CHECK.due("it leads", y.look(0, 5), 1);
    }

    /** Promise 3: "otherwise r proposes q for s: 2", where the net takes none of its messages */
    private static void sendWhileTheNetIsFull() {
        MajorityMap x = asked(1);
        Play.fillNet(x, 3, 4);
        CHECK.due("proposed", x.send(1, 0), 2);
        CHECK.due("its own vote", x.vote(0, 1), 64 * 5 + 1);
        CHECK.due("proposed already", x.send(1, 0), 3);
        Play.dropAll(x);
        CHECK.due("its clock sends it again", x.timer(0), 2);
    }

    /** Promise 3: "Tested in this order" */
    private static void sendTestsInOrder() {
        MajorityMap x = Play.ledThrough(0, 1);
        x.crash(1);
        CHECK.due("no request before down", x.send(2, 1), -1);
        CHECK.due("down before done", x.send(1, 1), 0);
        CHECK.due("done before no campaign", x.send(1, 3), 1);
        for (int q = 2; q <= 5; q++) {
            x.ask(Play.ADD, 0, 1);
        }
        for (int q = 2; q <= 4; q++) {
            x.send(q, 0);
        }
        CHECK.due("done before too far ahead", x.send(1, 0), 1);
        CHECK.due("proposed before too far ahead", x.send(4, 0), 3);
        CHECK.due("too far ahead", x.send(5, 0), 4);
        Play.collectVote(x, 0, 2, 4);
        Play.deliver(x, Play.LEARN, 0, 3, 4);
        CHECK.due("no campaign before known", x.send(4, 3), 0);
        x.timer(3);
        CHECK.due("known before too few heard", x.send(4, 3), 3);
        CHECK.due("too few heard", x.send(5, 3), 4);
    }

    /** Promise 4: "-1 if there is no replica r" */
    private static void timerOfNoReplica() {
        MajorityMap x = new MajorityMap();
        for (int r : NO_REPLICA) {
            CHECK.due("replica " + r, x.timer(r), -1);
        }
        CHECK.due("nothing waits", x.waiting(), 0);
        CHECK.due("replica 0", x.timer(0), 2);
        CHECK.due("replica 4", x.timer(4), 3);
    }

    /** Promise 4: "-1 if [..] it is down" */
    private static void timerOfOneThatIsDown() {
        MajorityMap x = new MajorityMap();
        x.crash(4);
        CHECK.due("down", x.timer(4), -1);
        CHECK.due("PROMISED", x.look(4, 1), 0);
        CHECK.due("nothing waits", x.waiting(), 0);
        x.restart(4);
        CHECK.due("up", x.timer(4), 3);
    }

    /** Promise 4: "BALLOT and PROMISED become its least ballot above PROMISED" */
    private static void timerTakesTheLeastBallot() {
        for (int other = 0; other < 5; other++) {
            for (int r = 0; r < 3; r++) {
                if (r != other) {
                    MajorityMap x = new MajorityMap();
                    x.timer(other);
                    Play.deliver(x, Play.PREPARE, other, r);
                    x.timer(r);
                    int least = r > other ? 5 + r : 10 + r;
                    Play.dueLook(CHECK, "above " + (5 + other), x, r, 1, least, 0, 0, least);
                }
            }
        }
        MajorityMap own = new MajorityMap();
        own.timer(2);
        Play.bounce(own, 2);
        own.timer(2);
        CHECK.due("above its own ballot 7", own.look(2, 4), 12);
    }

    /** Promise 4: "Its HELPERS are the other replicas that are in the membership of slot e + 1, e + 2 or e + 3" */
    private static void timerAsksOthersAlone() {
        dueHelpers(8, 24, 24, 24, 4);
        dueHelpers(8, 3, 24, 24, 0, 1, 4);
        dueHelpers(8, 24, 3, 24, 0, 1, 4);
        dueHelpers(8, 24, 24, 3, 0, 1, 4);
        dueHelpers(8, 3, 3, 3, 0, 1);
        dueHelpers(8, 31, 31, 31, 0, 1, 2, 4);
    }

    /** Replica 3 begins a campaign after three slots that set the memberships of slots 4, 5 and 6. */
    private static void dueHelpers(int ballot, int fourth, int fifth, int sixth, int... helpers) {
        MajorityMap x = Play.ledBy(0);
        Play.perform(x, 0, Play.MEMBERS, 0, fourth);
        Play.perform(x, 0, Play.MEMBERS, 0, fifth);
        Play.perform(x, 0, Play.MEMBERS, 0, sixth);
        String what = "helpers for " + fourth + ", " + fifth + ", " + sixth;
        CHECK.due(what, x.timer(3), helpers.length);
        for (int i = 0; i < helpers.length; i++) {
            Play.dueMessage(CHECK, what, x, i, Play.PREPARE, 3, helpers[i], ballot, 0, 0);
        }
    }

    /** Promise 4: "(also where these are above 24)" */
    private static void timerAsksHelpersAboveTheLastSlot() {
        MajorityMap x = Play.ledBy(0);
        for (int s = 1; s <= 24; s++) {
            Play.perform(x, 0, s == 24 ? Play.MEMBERS : Play.ADD, 0, s == 24 ? 31 : 1);
        }
        CHECK.due("slot 27 is of 31", x.timer(1), 4);
        CHECK.due("slot 25 is of 7", x.look(1, 6), 7);
        MajorityMap y = Play.ledThrough(0, 24);
        CHECK.due("slots 25, 26 and 27 are of 7", y.timer(3), 3);
    }

    /** Promise 4: "HEARD is r alone, COLLECTED its votes, nothing is proposed" */
    private static void timerBeginsWithItselfAlone() {
        MajorityMap x = asked(3);
        x.send(1, 0);
        x.send(2, 0);
        Play.dropAll(x);
        x.timer(1);
        Play.deliver(x, Play.PREPARE, 1, 0);
        Play.dropAll(x);
        x.timer(0);
        CHECK.due("HEARD", x.look(0, 7), 1);
        CHECK.due("nothing is proposed", x.send(2, 0), 4);
        CHECK.due("its own two votes are collected", Play.collectPromise(x, 0, 2), 4);
        CHECK.due("slot 2", x.vote(0, 2), 64 * 10 + 2);
    }

    /** Replica 3 proposes request 1 for slot 1, and replica 1 alone votes for it; a campaign of replica 4 hears so. */
    private static MajorityMap oneVoteIsCollected() {
        MajorityMap x = Play.ledBy(3);
        x.ask(Play.ADD, 0, 1);
        x.ask(Play.ADD, 0, 1);
        x.send(1, 3);
        Play.deliver(x, Play.ACCEPT, 3, 1);
        Play.dropAll(x);
        x.timer(4);
        Play.collectPromise(x, 4, 1);
        return x;
    }

    /** Promise 4: "COLLECTED its votes": what an earlier campaign collected from others is gone */
    private static void timerCollectsItsOwnVotesAlone() {
        MajorityMap x = oneVoteIsCollected();
        CHECK.due("the earlier campaign would propose it", Play.collectPromise(x, 4, 2), 3);
        MajorityMap y = oneVoteIsCollected();
        Play.bounce(y, 4);
        Play.dropAll(y);
        y.timer(4);
        Play.collectPromise(y, 4, 0);
        CHECK.due("the next one knows nothing of it", Play.collectPromise(y, 4, 2), 0);
        CHECK.due("so slot 1 is open", y.send(2, 4), 2);
        Play.dueNewest(CHECK, "slot 1", y, Play.ACCEPT, 4, 2, 1, 0, 2);
    }

    /** Promise 4: "nothing is proposed": nor does a vote of an earlier campaign count for a new proposal */
    private static void timerForgetsWhoVoted() {
        MajorityMap x = oneVoteIsCollected();
        Play.collectPromise(x, 4, 2);
        CHECK.due("one vote of three", Play.collectVote(x, 4, 2, 1), 0);
        Play.bounce(x, 4);
        Play.dropAll(x);
        x.timer(4);
        Play.collectPromise(x, 4, 0);
        CHECK.due("proposed anew", Play.collectPromise(x, 4, 1), 3);
        CHECK.due("one vote of three again", Play.collectVote(x, 4, 0, 1), 0);
        CHECK.due("not executed", x.look(4, 3), 0);
        Play.dropAll(x);
        CHECK.due("PREPARE to 2, ACCEPT to 1 and 2", x.timer(4), 3);
    }

    /** Promise 4: "it sends PREPARE BALLOT to the helpers that are not in HEARD" */
    private static void timerLeavesOutWhoWasHeard() {
        MajorityMap x = new MajorityMap();
        x.timer(3);
        for (int heard = 0; heard < 3; heard++) {
            Play.collectPromise(x, 3, heard);
            CHECK.due("after " + (heard + 1) + " promises", x.timer(3), 2 - heard);
        }
        CHECK.due("the same ballot", x.look(3, 4), 8);
    }

    /** Promise 4: "it sends PREPARE BALLOT to the helpers that are not in HEARD; then, for s = e + 1, e + 2, e + 3" */
    private static void timerSendsPrepareBeforeAccept() {
        MajorityMap x = new MajorityMap();
        x.ask(Play.ADD, 0, 1);
        x.ask(Play.ADD, 0, 1);
        x.timer(0);
        Play.collectPromise(x, 0, 1);
        x.send(1, 0);
        x.send(2, 0);
        Play.dropAll(x);
        CHECK.due("one PREPARE, four ACCEPT", x.timer(0), 5);
        Play.dueMessage(CHECK, "PREPARE", x, 0, Play.PREPARE, 0, 2, 5, 0, 0);
        for (int n = 0; n < 4; n++) {
            int s = 1 + n / 2;
            Play.dueMessage(CHECK, "ACCEPT", x, 1 + n, Play.ACCEPT, 0, 1 + n % 2, s, 0, s);
        }
    }

    /** Promise 4: "ACCEPT again to the other members of the membership of s that have not voted for it" */
    private static void timerLeavesOutWhoVoted() {
        MajorityMap x = Play.ofMembership(31);
        x.timer(0);
        Play.settle(x);
        x.send(x.ask(Play.ADD, 0, 1), 0);
        CHECK.due("one vote of others", Play.collectVote(x, 0, 2, 4), 0);
        Play.dropAll(x);
        CHECK.due("three are left", x.timer(0), 3);
        int[] left = {1, 3, 4};
        for (int i = 0; i < 3; i++) {
            Play.dueMessage(CHECK, "again", x, i, Play.ACCEPT, 0, left[i], 4, 0, 4);
        }
    }

    /** Promise 4: "if something is proposed for s and s is not known" */
    private static void timerLeavesOutWhatIsKnown() {
        MajorityMap x = asked(3);
        x.send(1, 0);
        x.send(2, 0);
        CHECK.due("slot 2 is known", Play.collectVote(x, 0, 1, 2), 4);
        Play.dropAll(x);
        CHECK.due("slot 1 alone, as nothing is proposed for slot 3", x.timer(0), 2);
        CHECK.due("slot 1", x.message(1, 3), 1);
        x.send(3, 0);
        Play.dropAll(x);
        CHECK.due("slots 1 and 3", x.timer(0), 4);
        CHECK.due("slot e + 3", x.message(3, 3), 3);
    }

    /** Promise 4: "to the other members of the membership of s" */
    private static void timerLeavesOutWhoIsNoMember() {
        MajorityMap x = Play.ofMembership(25);
        x.timer(0);
        Play.settle(x);
        x.send(x.ask(Play.ADD, 0, 1), 0);
        Play.dropAll(x);
        CHECK.due("replicas 3 and 4", x.timer(0), 2);
        Play.dueMessage(CHECK, "the first", x, 0, Play.ACCEPT, 0, 3, 4, 0, 4);
        Play.dueMessage(CHECK, "the second", x, 1, Play.ACCEPT, 0, 4, 4, 0, 4);
    }

    /** Promise 4: "for s = e + 1, e + 2, e + 3", of which slot 24 may be one and slot 25 none */
    private static void timerRepeatsTheLastSlot() {
        MajorityMap x = Play.ledThrough(0, 22);
        x.send(x.ask(Play.ADD, 0, 1), 0);
        x.send(x.ask(Play.ADD, 0, 1), 0);
        Play.dropAll(x);
        CHECK.due("slots 23 and 24", x.timer(0), 4);
        CHECK.due("slot 24", x.message(3, 3), 24);
        Play.settle(x);
        CHECK.due("all are executed", x.look(0, 3), 24);
        CHECK.due("nothing is left to repeat", x.timer(0), 0);
    }

    /** Promise 4: "The answer is how many messages were put into the net (not those lost)" */
    private static void timerCountsWhatWasNotLost() {
        for (int free = 0; free <= 4; free++) {
            MajorityMap x = new MajorityMap();
            for (int n = 0; n < 32 - free; n++) {
                x.fetch(0, 1);
            }
            CHECK.due(free + " places for three messages", x.timer(3), Math.min(free, 3));
            CHECK.due("it campaigns in any case", x.look(3, 4), 8);
        }
        MajorityMap x = asked(2);
        x.send(1, 0);
        x.send(2, 0);
        Play.dropAll(x);
        Play.fillNet(x, 3, 4);
        x.drop(0);
        CHECK.due("one place for four ACCEPT", x.timer(0), 1);
    }
}
