/**
 * The sentences of the document's "Terms" that name a boundary case, each with a test of its own. What a receiver does
 * with each kind of message is in MessageEdgeTest.
 */
public final class TermsEdgeTest {
    private static final Check CHECK = new Check("TermsEdgeTest");

    public static void main(String[] args) {
        requestsHaveNumbersUpTo40();
        slotsAre1To24();
        nothingIsWritten0();
        membershipHasTwoAtLeast();
        majorityOfHeardIsMoreThanHalf();
        majorityOfVotesIsMoreThanHalf();
        majorityIsOfMembersAlone();
        atFirstAllValuesAre0();
        atFirstNoRequestIsDone();
        membershipUpToSlot3Is7();
        requestThatIsDoneDoesNotAct();
        nothingDoesNotAct();
        membersThatIsDoneDoesNotAct();
        readChangesNothing();
        putAnswersTheOldValue();
        addWraps();
        claimTakes0Alone();
        keyOfMembersDoesNotMatter();
        membersAnswersTheNewestMembership();
        membershipHoldsFromTheThirdSlotOn();
        crashKeepsPromised();
        crashKeepsVotes();
        crashKeepsTheSnapshot();
        noVotesUpToFloor();
        crashLosesTheKnown();
        crashLosesTheLastSlot();
        crashLosesExecuted();
        crashLosesTheCampaign();
        campaignIsOverForGood();
        ballotsStartAt5();
        leadsByTheNextSlot();
        allAreUpAtFirst();
        netHolds32();
        lostWhen32Wait();
        ascendingOrderDecidesWhatIsLost();
        promiseCarriesThen();
        stateCarriesThen();
        fetchCarriesThen();
        acceptCarriesThen();
        CHECK.end();
    }

    /** "REQUESTS have numbers 1, 2, .. (at most 40)" */
    private static void requestsHaveNumbersUpTo40() {
        MajorityMap x = Play.ledBy(0);
        for (int q = 1; q <= 40; q++) {
            CHECK.due("number " + q, x.ask(Play.ADD, 0, q), q);
        }
        CHECK.due("request 40 is proposed", x.send(40, 0), 2);
        CHECK.due("its number in a message", x.message(0, 5), 40);
        CHECK.due("its number in a vote", x.vote(0, 1), 64 * 5 + 40);
        Play.settle(x);
        CHECK.due("it acted", x.value(4, 0), 40);
        CHECK.due("its answer", x.reply(40), 40);
        CHECK.due("it is done", x.send(40, 4), 1);
        CHECK.due("request 1 is proposed", x.send(1, 0), 2);
        Play.settle(x);
        CHECK.due("it acted, too", x.value(4, 0), 41);
    }

    /** "SLOTS are 1 .. 24" */
    private static void slotsAre1To24() {
        MajorityMap x = Play.ledBy(0);
        x.ask(Play.ADD, 0, 1);
        x.send(1, 0);
        CHECK.due("the first slot", x.message(0, 3), 1);
        Play.settle(x);
        for (int s = 2; s <= 23; s++) {
            Play.perform(x, 0, Play.ADD, 0, 1);
        }
        x.ask(Play.ADD, 0, 1);
        x.ask(Play.ADD, 0, 1);
        CHECK.due("the last slot is given away", x.send(24, 0), 2);
        CHECK.due("it is slot 24", x.message(0, 3), 24);
        CHECK.due("there is no slot 25", x.send(25, 0), 4);
        Play.settle(x);
        for (int r = 0; r < 5; r++) {
            CHECK.due("all slots are executed at " + r, x.look(r, 3), 24);
            CHECK.due("and act there", x.value(r, 0), 24);
        }
        CHECK.due("no slot is left", x.send(25, 0), 4);
    }

    /** "a slot's COMMAND is a request or NOTHING (written 0)" */
    private static void nothingIsWritten0() {
        MajorityMap x = Play.ledBy(0);
        gapInSlot1(x);
        CHECK.due("in an ACCEPT", x.message(Play.find(x, Play.ACCEPT, 2, 1), 5), 0);
        CHECK.due("in a vote", x.vote(2, 1), 64 * 7);
        Play.collectVote(x, 2, 1, 1);
        CHECK.due("in a LEARN", x.message(Play.find(x, Play.LEARN, 2, 3), 5), 0);
        CHECK.due("it fills its slot", x.look(2, 3), 1);
    }

    /** Replica 2 leads after replica 0, finds a vote for slot 2 and none for slot 1, and proposes NOTHING there. */
    private static void gapInSlot1(MajorityMap x) {
        x.ask(Play.ADD, 0, 10);
        x.ask(Play.ADD, 0, 20);
        x.send(1, 0);
        x.send(2, 0);
        Play.deliver(x, Play.ACCEPT, 0, 1, 2);
        Play.dropAll(x);
        x.crash(0);
        x.timer(2);
        CHECK.due("slots 1 and 2 are proposed for", Play.collectPromise(x, 2, 1), 4);
    }

    /** "A MEMBERSHIP is a set of at least two replicas, as bits (replica r is bit r, so 3 .. 31)" */
    private static void membershipHasTwoAtLeast() {
        MajorityMap least = Play.ofMembership(3);
        CHECK.due("the least", least.look(0, 6), 3);
        CHECK.due("its clock asks replica 1", least.timer(2), 2);
        MajorityMap most = Play.ofMembership(31);
        CHECK.due("the greatest", most.look(0, 6), 31);
        CHECK.due("replicas 3 and 4 are new", most.timer(0), 2);
        MajorityMap x = new MajorityMap();
        for (int one : new int[] {1, 2, 4, 8, 16}) {
            CHECK.due("one replica alone, " + one, x.ask(Play.MEMBERS, 0, one), -1);
        }
        CHECK.due("none", x.ask(Play.MEMBERS, 0, 0), -1);
        CHECK.due("a sixth replica", x.ask(Play.MEMBERS, 0, 32), -1);
        CHECK.due("a sixth beside two", x.ask(Play.MEMBERS, 0, 35), -1);
        CHECK.due("all and more", x.ask(Play.MEMBERS, 0, -1), -1);
        CHECK.due("the first two", x.ask(Play.MEMBERS, 0, 3), 1);
        CHECK.due("all five", x.ask(Play.MEMBERS, 0, 31), 2);
    }

    /** "a set HOLDS A MAJORITY of it if more than half of its members are in that set", of HEARD */
    private static void majorityOfHeardIsMoreThanHalf() {
        dueLeadsAfter(3, 1);
        dueLeadsAfter(7, 1);
        dueLeadsAfter(15, 2);
        dueLeadsAfter(31, 2);
        dueLeadsAfter(24, 2);
        dueLeadsAfter(28, 2);
        dueLeadsAfter(30, 3);
    }

    /** With how many promises replica 0, a member or not, leads from slot 4 on. */
    private static void dueLeadsAfter(int membership, int promises) {
        MajorityMap x = Play.ofMembership(membership);
        Play.bounce(x, 0);
        int helpers = x.timer(0);
        CHECK.due("helpers in " + membership, helpers, Integer.bitCount(membership & ~1));
        for (int n = 0; n <= helpers; n++) {
            CHECK.due(n + " promises in " + membership, x.look(0, 5), n >= promises ? 1 : 0);
            x.deliver(0);
            x.deliver(x.waiting() - 1);
        }
    }

    /** "a set HOLDS A MAJORITY of it if more than half of its members are in that set", of those who voted */
    private static void majorityOfVotesIsMoreThanHalf() {
        dueKnownAfter(3, 1);
        dueKnownAfter(7, 1);
        dueKnownAfter(15, 2);
        dueKnownAfter(31, 2);
        dueKnownAfter(24, 2);
        dueKnownAfter(28, 2);
        dueKnownAfter(30, 3);
    }

    /** With how many votes of others slot 4 is known to replica 0, a member or not. */
    private static void dueKnownAfter(int membership, int votes) {
        MajorityMap x = Play.ofMembership(membership);
        x.timer(0);
        Play.settle(x);
        x.send(x.ask(Play.ADD, 0, 1), 0);
        int others = x.waiting();
        CHECK.due("ACCEPT in " + membership, others, Integer.bitCount(membership & ~1));
        for (int n = 0; n <= others; n++) {
            CHECK.due(n + " votes in " + membership, x.look(0, 3), n >= votes ? 4 : 3);
            x.deliver(0);
            x.deliver(x.waiting() - 1);
        }
    }

    /** "more than half of its members are in that set": who is no member does not count */
    private static void majorityIsOfMembersAlone() {
        MajorityMap x = Play.ofMembership(24);
        CHECK.due("HEARD has three, none of them a member", x.look(0, 7), 7);
        CHECK.due("so it does not lead", x.look(0, 5), 0);
        CHECK.due("nor propose", x.send(x.ask(Play.READ, 0, 0), 0), 4);
        x.timer(0);
        Play.collectPromise(x, 0, 3);
        CHECK.due("HEARD has four, one of them a member", x.look(0, 7), 15);
        CHECK.due("still it does not lead", x.look(0, 5), 0);
        Play.collectPromise(x, 0, 4);
        CHECK.due("both members", x.look(0, 5), 1);
    }

    /** "At first (k = 0) all values are 0" */
    private static void atFirstAllValuesAre0() {
        MajorityMap x = Play.ledBy(0);
        for (int key = 0; key < 4; key++) {
            int q = Play.perform(x, 0, Play.READ, key, 9);
            CHECK.due("what READ found under " + key, x.reply(q), 0);
            CHECK.due("it was heard", x.heard(q), 1);
        }
    }

    /** "At first (k = 0) [..] no request is done" */
    private static void atFirstNoRequestIsDone() {
        MajorityMap x = new MajorityMap();
        for (int q = 1; q <= 40; q++) {
            x.ask(Play.READ, 0, 0);
            CHECK.due("request " + q, x.send(q, q % 5), 0);
        }
        MajorityMap y = Play.ledBy(0);
        Play.perform(y, 0, Play.ADD, 0, 1);
        Play.bounce(y, 3);
        y.fetch(3, 0);
        y.deliver(0);
        CHECK.due("one is done then", y.message(0, 4), 1);
    }

    /** "M(k) is 7 for every k <= 0", "THE MEMBERSHIP OF SLOT s is M(s - 3)" */
    private static void membershipUpToSlot3Is7() {
        MajorityMap x = Play.ledBy(0);
        CHECK.due("slot 1", x.look(0, 6), 7);
        Play.perform(x, 0, Play.MEMBERS, 0, 15);
        CHECK.due("slot 2, M(-1)", x.look(0, 6), 7);
        Play.perform(x, 0, Play.MEMBERS, 0, 31);
        CHECK.due("slot 3, M(0)", x.look(0, 6), 7);
        Play.perform(x, 0, Play.MEMBERS, 0, 7);
        CHECK.due("slot 4, M(1)", x.look(0, 6), 15);
    }

    /** Replica 0 has slot 1's request in slot 3 as well: replica 1 leads between, and its votes are found again. */
    private static MajorityMap sameRequestInSlots1And3(int kind, int v, int between) {
        MajorityMap x = Play.ledBy(0);
        x.ask(kind, 0, v);
        x.ask(kind, 0, between);
        x.ask(Play.READ, 0, 0);
        x.send(3, 0);
        x.send(2, 0);
        x.send(1, 0);
        Play.dropAll(x);
        x.crash(0);
        x.timer(1);
        Play.collectPromise(x, 1, 2);
        x.send(1, 1);
        x.send(2, 1);
        Play.collectVote(x, 1, 2, 1);
        Play.collectVote(x, 1, 2, 2);
        Play.dropAll(x);
        x.restart(0);
        x.timer(0);
        CHECK.due("three slots are proposed for", Play.collectPromise(x, 0, 1), 6);
        CHECK.due("slot 1", x.vote(0, 1), 64 * 10 + 1);
        CHECK.due("slot 2", x.vote(0, 2), 64 * 10 + 2);
        CHECK.due("slot 3", x.vote(0, 3), 64 * 10 + 1);
        Play.settle(x);
        CHECK.due("all three are executed", x.look(0, 3), 3);
        return x;
    }

    /** "if it is a request that is not done, it acts and is done with its answer; otherwise nothing acts", a request */
    private static void requestThatIsDoneDoesNotAct() {
        MajorityMap x = sameRequestInSlots1And3(Play.PUT, 5, 6);
        CHECK.due("what slot 2 put stays", x.value(0, 0), 6);
        CHECK.due("the answer of slot 1 stays", x.reply(1), 0);
        CHECK.due("request 3 got no slot", x.send(3, 4), 0);
        MajorityMap y = sameRequestInSlots1And3(Play.ADD, 5, 100);
        CHECK.due("added once", y.value(0, 0), 105);
        CHECK.due("the first sum is the answer", y.reply(1), 5);
    }

    /** "otherwise nothing acts", NOTHING */
    private static void nothingDoesNotAct() {
        MajorityMap x = Play.ledBy(0);
        gapInSlot1(x);
        Play.collectVote(x, 2, 1, 1);
        Play.dueLook(CHECK, "slot 1 is executed", x, 2, 1, 7, 0, 1, 7, 1, 7);
        for (int key = 0; key < 4; key++) {
            CHECK.due("value of " + key, x.value(2, key), 0);
        }
        Play.dropAll(x);
        x.fetch(3, 2);
        x.deliver(0);
        Play.dueMessage(CHECK, "no request is done by it", x, 0, Play.STATE, 2, 3, 1, 0, 0);
    }

    /** "M(k + 1) is M(k), unless a request of kind 4 acts there" */
    private static void membersThatIsDoneDoesNotAct() {
        MajorityMap x = sameRequestInSlots1And3(Play.MEMBERS, 15, 23);
        CHECK.due("slot 4, M(1)", x.look(0, 6), 15);
        Play.perform(x, 0, Play.READ, 0, 0);
        CHECK.due("slot 5, M(2)", x.look(0, 6), 23);
        Play.perform(x, 0, Play.READ, 0, 0);
        CHECK.due("slot 6, M(3), where request 1 was done already", x.look(0, 6), 23);
        CHECK.due("its answer", x.reply(1), 7);
        CHECK.due("the answer of the other", x.reply(2), 15);
    }

    /** "0 READ: the answer is the key's value." */
    private static void readChangesNothing() {
        MajorityMap x = Play.ledBy(0);
        Play.perform(x, 0, Play.PUT, 3, -8);
        int q = Play.perform(x, 0, Play.READ, 3, 77);
        CHECK.due("the answer", x.reply(q), -8);
        CHECK.due("the value", x.value(0, 3), -8);
        CHECK.due("a key beside", x.value(0, 2), 0);
    }

    /** "1 PUT: the answer is the key's value, which then becomes v." */
    private static void putAnswersTheOldValue() {
        MajorityMap x = Play.ledBy(0);
        int q = Play.perform(x, 0, Play.PUT, 0, Integer.MIN_VALUE);
        CHECK.due("the answer", x.reply(q), 0);
        q = Play.perform(x, 0, Play.PUT, 0, Integer.MAX_VALUE);
        CHECK.due("the least number", x.reply(q), Integer.MIN_VALUE);
        q = Play.perform(x, 0, Play.PUT, 0, 0);
        CHECK.due("the greatest number", x.reply(q), Integer.MAX_VALUE);
        CHECK.due("0", x.value(0, 0), 0);
    }

    /** "2 ADD: the key's value grows by v (it wraps), the answer is the new one." */
    private static void addWraps() {
        MajorityMap x = Play.ledBy(0);
        Play.perform(x, 0, Play.PUT, 1, Integer.MAX_VALUE);
        dueAdd(x, 1, Integer.MIN_VALUE);
        dueAdd(x, -1, Integer.MAX_VALUE);
        dueAdd(x, Integer.MAX_VALUE, -2);
        dueAdd(x, Integer.MIN_VALUE, Integer.MAX_VALUE - 1);
        dueAdd(x, 2, Integer.MIN_VALUE);
        dueAdd(x, Integer.MIN_VALUE, 0);
    }

    private static void dueAdd(MajorityMap x, int v, int sum) {
        int q = Play.perform(x, 0, Play.ADD, 1, v);
        CHECK.due("the answer to ADD " + v, x.reply(q), sum);
        CHECK.due("the value after ADD " + v, x.value(0, 1), sum);
    }

    /** "3 CLAIM: the answer is the key's value; if that is 0, it becomes v." */
    private static void claimTakes0Alone() {
        MajorityMap x = Play.ledBy(0);
        dueClaim(x, 0, 0, 0);
        dueClaim(x, -1, 0, -1);
        dueClaim(x, 5, -1, -1);
        Play.perform(x, 0, Play.ADD, 2, 2);
        dueClaim(x, 5, 1, 1);
        Play.perform(x, 0, Play.PUT, 2, 0);
        dueClaim(x, 5, 0, 5);
        dueClaim(x, 0, 5, 5);
    }

    private static void dueClaim(MajorityMap x, int v, int answer, int after) {
        int q = Play.perform(x, 0, Play.CLAIM, 2, v);
        CHECK.due("the answer to CLAIM " + v, x.reply(q), answer);
        CHECK.due("the value after CLAIM " + v, x.value(0, 2), after);
    }

    /** "4 MEMBERS (the key does not matter)" */
    private static void keyOfMembersDoesNotMatter() {
        MajorityMap x = Play.ledBy(0);
        Play.perform(x, 0, Play.PUT, 3, 50);
        for (int key = 0; key < 4; key++) {
            int q = Play.perform(x, 0, Play.MEMBERS, key, 7);
            CHECK.due("the answer with key " + key, x.reply(q), 7);
            CHECK.due("the value of key " + key, x.value(0, key), key == 3 ? 50 : 0);
        }
    }

    /** "the answer is M(k), and M(k + 1) is v" */
    private static void membersAnswersTheNewestMembership() {
        MajorityMap x = Play.ledBy(0);
        int q = Play.perform(x, 0, Play.MEMBERS, 0, 15);
        CHECK.due("M(0)", x.reply(q), 7);
        q = Play.perform(x, 0, Play.MEMBERS, 0, 31);
        CHECK.due("M(1), though slot 3 is still of 7", x.reply(q), 15);
        Play.perform(x, 0, Play.READ, 0, 0);
        q = Play.perform(x, 0, Play.MEMBERS, 0, 31);
        CHECK.due("M(3), which is M(2)", x.reply(q), 31);
    }

    /** "THE MEMBERSHIP OF SLOT s is M(s - 3)." */
    private static void membershipHoldsFromTheThirdSlotOn() {
        MajorityMap x = Play.ledBy(0);
        Play.perform(x, 0, Play.MEMBERS, 0, 3);
        for (int q = 2; q <= 4; q++) {
            x.ask(Play.READ, 0, 0);
            Play.dropAll(x);
            x.send(q, 0);
            CHECK.due("ACCEPT for slot " + q, x.waiting(), q < 4 ? 2 : 1);
        }
    }

    /** "What a replica keeps over a crash: PROMISED, a ballot (0 at first)" */
    private static void crashKeepsPromised() {
        MajorityMap x = new MajorityMap();
        CHECK.due("at first", x.look(1, 1), 0);
        x.timer(4);
        Play.deliver(x, Play.PREPARE, 4, 1);
        x.crash(1);
        CHECK.due("down", x.look(1, 1), 9);
        x.restart(1);
        CHECK.due("up again", x.look(1, 1), 9);
        x.timer(0);
        CHECK.due("so it refuses ballot 5", Play.deliver(x, Play.PREPARE, 0, 1), 1);
        CHECK.due("and says why", x.message(x.waiting() - 1, 0), Play.REFUSE);
    }

    /** "VOTES, at most one for a slot: a ballot and a command" */
    private static void crashKeepsVotes() {
        MajorityMap x = Play.ledBy(0);
        x.ask(Play.ADD, 0, 1);
        x.ask(Play.ADD, 0, 2);
        x.send(1, 0);
        x.send(2, 0);
        Play.deliver(x, Play.ACCEPT, 0, 2, 1);
        Play.deliver(x, Play.ACCEPT, 0, 2, 2);
        x.crash(2);
        CHECK.due("slot 1, down", x.vote(2, 1), 64 * 5 + 1);
        x.restart(2);
        CHECK.due("slot 1, up again", x.vote(2, 1), 64 * 5 + 1);
        CHECK.due("slot 2", x.vote(2, 2), 64 * 5 + 2);
        Play.dropAll(x);
        x.timer(1);
        Play.deliver(x, Play.PREPARE, 1, 2);
        CHECK.due("both are told", x.message(x.waiting() - 1, 4), 2);
        Play.deliver(x, Play.PROMISE, 2, 1);
        Play.deliver(x, Play.ACCEPT, 1, 2, 1);
        CHECK.due("another vote for slot 1 takes the place", x.vote(2, 1), 64 * 6 + 1);
        Play.dropAll(x);
        x.timer(3);
        Play.deliver(x, Play.PREPARE, 3, 2);
        CHECK.due("so there are still two", x.message(x.waiting() - 1, 4), 2);
    }

    /** "a SNAPSHOT: the state after its slots 1 .. FLOOR (FLOOR 0 at first)" */
    private static void crashKeepsTheSnapshot() {
        MajorityMap x = Play.ledBy(0);
        CHECK.due("FLOOR at first", x.look(3, 2), 0);
        int done = Play.perform(x, 0, Play.ADD, 0, 6);
        x.cut(3);
        Play.perform(x, 0, Play.ADD, 0, 7);
        Play.bounce(x, 3);
        Play.bounce(x, 4);
        Play.dueLook(CHECK, "with a snapshot", x, 3, 1, 0, 1, 1);
        CHECK.due("its value", x.value(3, 0), 6);
        CHECK.due("what is done in it", x.send(done, 3), 1);
        Play.dueLook(CHECK, "with the first one", x, 4, 1, 0, 0, 0);
        CHECK.due("its value", x.value(4, 0), 0);
        CHECK.due("nothing is done in it", x.send(done, 4), 0);
    }

    /** "there are no votes for slots up to FLOOR" */
    private static void noVotesUpToFloor() {
        MajorityMap x = Play.ledThrough(0, 2);
        x.send(x.ask(Play.ADD, 0, 1), 0);
        x.cut(0);
        CHECK.due("below FLOOR", x.vote(0, 1), 0);
        CHECK.due("at FLOOR", x.vote(0, 2), 0);
        CHECK.due("above FLOOR", x.vote(0, 3), 64 * 5 + 3);
    }

    /** "What is lost: the KNOWN commands of slots above FLOOR" */
    private static void crashLosesTheKnown() {
        MajorityMap x = Play.ledBy(0);
        x.ask(Play.ADD, 0, 1);
        x.ask(Play.ADD, 0, 2);
        x.send(1, 0);
        x.send(2, 0);
        Play.collectVote(x, 0, 1, 1);
        Play.collectVote(x, 0, 1, 2);
        Play.deliver(x, Play.LEARN, 0, 4, 2);
        Play.bounce(x, 4);
        Play.deliver(x, Play.LEARN, 0, 4, 1);
        CHECK.due("slot 2 was known before", x.look(4, 3), 1);
    }

    /** "What is lost: the KNOWN commands of slots above FLOOR", slot 24, and what is PROPOSED for it */
    private static void crashLosesTheLastSlot() {
        MajorityMap x = Play.ledThrough(0, 22);
        x.cut(0);
        x.cut(3);
        x.send(x.ask(Play.ADD, 0, 100), 0);
        x.send(x.ask(Play.ADD, 0, 1000), 0);
        Play.collectVote(x, 0, 1, 24);
        Play.deliver(x, Play.LEARN, 0, 3, 24);
        Play.bounce(x, 3);
        Play.collectVote(x, 0, 1, 23);
        Play.deliver(x, Play.LEARN, 0, 3, 23);
        CHECK.due("slot 24 was known before", x.look(3, 3), 23);
        Play.dropAll(x);
        Play.bounce(x, 0);
        x.timer(0);
        Play.dropAll(x);
        CHECK.due("nothing is proposed: PREPARE alone", x.timer(0), 2);
        CHECK.due("to both", x.message(1, 0), Play.PREPARE);
    }

    /** "EXECUTED (e in what follows), the slot up to which its present state goes" */
    private static void crashLosesExecuted() {
        MajorityMap x = Play.ledThrough(0, 2);
        x.crash(1);
        CHECK.due("EXECUTED", x.look(1, 3), 0);
        CHECK.due("the present state", x.value(1, 0), 0);
        x.restart(1);
        x.fetch(1, 0);
        CHECK.due("it asks for all", x.message(0, 3), 0);
    }

    /** "What is lost: [..] a CAMPAIGN: BALLOT, HEARD (a set of replicas), COLLECTED [..], and what is PROPOSED" */
    private static void crashLosesTheCampaign() {
        MajorityMap x = Play.ledBy(4);
        x.ask(Play.ADD, 0, 1);
        x.send(1, 4);
        Play.dropAll(x);
        Play.bounce(x, 4);
        CHECK.due("BALLOT", x.look(4, 4), 0);
        CHECK.due("HEARD", x.look(4, 7), 0);
        x.timer(4);
        CHECK.due("HEARD anew", x.look(4, 7), 16);
        Play.collectPromise(x, 4, 0);
        CHECK.due("nothing is collected", Play.collectPromise(x, 4, 1), 0);
        CHECK.due("nor proposed", x.send(1, 4), 2);
    }

    /** "once PROMISED is greater, that campaign is over for good" */
    private static void campaignIsOverForGood() {
        MajorityMap x = new MajorityMap();
        x.ask(Play.ADD, 0, 1);
        x.timer(0);
        Play.deliver(x, Play.PREPARE, 0, 1);
        x.timer(1);
        Play.deliver(x, Play.PREPARE, 1, 0);
        Play.dueLook(CHECK, "over", x, 0, 1, 6, 0, 0, 0, 0, 7, 0);
        CHECK.due("a promise for it comes too late", Play.deliver(x, Play.PROMISE, 1, 0), 0);
        Play.dueLook(CHECK, "still over", x, 0, 1, 6, 0, 0, 0, 0, 7, 0);
        CHECK.due("it takes no request", x.send(1, 0), 0);
        x.timer(0);
        Play.dueLook(CHECK, "the next one", x, 0, 1, 10, 0, 0, 10, 0, 7, 1);
    }

    /** "Replica r's ballots are 5 * n + r, n >= 1." */
    private static void ballotsStartAt5() {
        for (int r = 0; r < 5; r++) {
            MajorityMap x = new MajorityMap();
            for (int n = 1; n <= 4; n++) {
                x.timer(r);
                CHECK.due("ballot " + n + " of replica " + r, x.look(r, 4), 5 * n + r);
                Play.bounce(x, r);
            }
        }
    }

    /** "It LEADS if it campaigns and HEARD holds a majority of the membership of slot e + 1." */
    private static void leadsByTheNextSlot() {
        MajorityMap x = Play.ledBy(0);
        CHECK.due("slot 1 is of 7", x.look(0, 5), 1);
        Play.perform(x, 0, Play.MEMBERS, 0, 24);
        CHECK.due("slot 2 is of 7", x.look(0, 5), 1);
        Play.perform(x, 0, Play.MEMBERS, 0, 7);
        CHECK.due("slot 3 is of 7, slot 4 of 24", x.look(0, 5), 1);
        Play.perform(x, 0, Play.READ, 0, 0);
        CHECK.due("slot 4 is of 24, slot 5 of 7", x.look(0, 5), 0);
        x.timer(1);
        Play.deliver(x, Play.PREPARE, 1, 2);
        CHECK.due("one that heard nobody", x.look(1, 5), 0);
        CHECK.due("one that does not campaign", x.look(2, 5), 0);
    }

    /** "All are up at first." */
    private static void allAreUpAtFirst() {
        MajorityMap x = new MajorityMap();
        for (int r = 0; r < 5; r++) {
            CHECK.due("replica " + r, x.look(r, 0), 1);
            CHECK.due("it can't come back", x.restart(r), false);
        }
    }

    /** "THE NET is a list of at most 32 waiting messages, the oldest first." */
    private static void netHolds32() {
        MajorityMap x = new MajorityMap();
        for (int n = 1; n <= 33; n++) {
            x.fetch(n % 5, (n + 1) % 5);
        }
        CHECK.due("32 wait", x.waiting(), 32);
        for (int i = 0; i < 32; i++) {
            CHECK.due("sender of " + i, x.message(i, 1), (i + 1) % 5);
        }
        CHECK.due("there is no 33rd", x.message(32, 0), -1);
    }

    /** "To SEND is to put a message at its end; when 32 wait, it is lost instead." */
    private static void lostWhen32Wait() {
        MajorityMap x = new MajorityMap();
        Play.fillNet(x, 3, 4);
        CHECK.due("32 wait", x.timer(0), 0);
        CHECK.due("still 32", x.waiting(), 32);
        CHECK.due("the newest is an old one", x.message(31, 0), Play.FETCH);
        x.drop(0);
        CHECK.due("31 wait", x.timer(0), 1);
        CHECK.due("at the end", x.message(31, 0), Play.PREPARE);
        x.drop(0);
        CHECK.due("what was lost does not come back", x.waiting(), 31);
    }

    /** "To send to several replicas is to send to each in ascending order." */
    private static void ascendingOrderDecidesWhatIsLost() {
        MajorityMap x = new MajorityMap();
        Play.fillNet(x, 3, 4);
        x.drop(0);
        x.drop(0);
        CHECK.due("two of three fit", x.timer(4), 2);
        Play.dueMessage(CHECK, "the first", x, 30, Play.PREPARE, 4, 0, 9, 0, 0);
        Play.dueMessage(CHECK, "the second", x, 31, Play.PREPARE, 4, 1, 9, 0, 0);
    }

    /** "What a message carries is as it was when it was sent.", a PROMISE */
    private static void promiseCarriesThen() {
        MajorityMap x = new MajorityMap();
        x.ask(Play.ADD, 0, 1);
        x.timer(3);
        Play.deliver(x, Play.PREPARE, 3, 1);
        x.timer(4);
        Play.collectPromise(x, 4, 0);
        Play.collectPromise(x, 4, 1);
        x.send(1, 4);
        Play.collectVote(x, 4, 0, 1);
        Play.collectVote(x, 4, 1, 1);
        Play.deliver(x, Play.LEARN, 4, 1);
        int promise = Play.find(x, Play.PROMISE, 1, 3);
        CHECK.due("a vote of later", x.vote(1, 1), 64 * 9 + 1);
        Play.dueMessage(CHECK, "no vote, ballot 8", x, promise, Play.PROMISE, 1, 3, 8, 0, 0);
        x.timer(2);
        Play.bounce(x, 2);
        x.timer(2);
        x.deliver(x.waiting() - 1);
        Play.dueNewest(CHECK, "one vote, ballot 12", x, Play.PROMISE, 1, 2, 12, 1, 0);
        x.cut(1);
        Play.dueNewest(CHECK, "still one, though it is forgotten", x, Play.PROMISE, 1, 2, 12, 1, 0);
        x.deliver(promise);
        Play.dueLook(CHECK, "no snapshot of later", x, 3, 1, 8, 0, 0, 8, 0, 7, 10);
    }

    /** "What a message carries is as it was when it was sent.", a STATE */
    private static void stateCarriesThen() {
        MajorityMap x = Play.ledThrough(0, 1);
        Play.bounce(x, 3);
        x.fetch(3, 0);
        x.deliver(0);
        x.ask(Play.ADD, 0, 10);
        x.send(2, 0);
        Play.collectVote(x, 0, 1, 2);
        CHECK.due("the sender has gone on", x.value(0, 0), 11);
        Play.dueMessage(CHECK, "the state of then", x, 0, Play.STATE, 0, 3, 1, 1, 0);
        x.deliver(0);
        Play.dueLook(CHECK, "installed", x, 3, 1, 0, 1, 1);
        CHECK.due("its value", x.value(3, 0), 1);
    }

    /** "What a message carries is as it was when it was sent.", a FETCH */
    private static void fetchCarriesThen() {
        MajorityMap x = Play.ledThrough(0, 1);
        Play.bounce(x, 3);
        x.fetch(3, 0);
        x.fetch(3, 0);
        x.deliver(0);
        x.deliver(1);
        CHECK.due("it has executed a slot since", x.look(3, 3), 1);
        CHECK.due("the FETCH says 0", x.message(0, 3), 0);
        CHECK.due("so it is answered", x.deliver(0), 1);
    }

    /** "What a message carries is as it was when it was sent.", an ACCEPT */
    private static void acceptCarriesThen() {
        MajorityMap x = Play.ledBy(0);
        x.ask(Play.ADD, 0, 1);
        x.send(1, 0);
        x.timer(1);
        Play.deliver(x, Play.PREPARE, 1, 0);
        x.timer(0);
        CHECK.due("the sender has a new ballot", x.look(0, 4), 10);
        Play.deliver(x, Play.ACCEPT, 0, 2);
        CHECK.due("the vote is for the old one", x.vote(2, 1), 64 * 5 + 1);
    }
}
