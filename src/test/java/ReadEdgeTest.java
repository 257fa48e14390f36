/** The sentences of promises 13 to 18 that name a boundary case, each with a test of its own. */
public final class ReadEdgeTest {
    private static final Check CHECK = new Check("ReadEdgeTest");
    private static final int[] NO_REPLICA = {-1, 5, Integer.MIN_VALUE, Integer.MAX_VALUE};
    private static final int[] NO_REQUEST = {0, -1, 2, 40, 41, Integer.MIN_VALUE, Integer.MAX_VALUE};

    public static void main(String[] args) {
        messageOfNoMessage();
        messageOfNoK();
        messageNumbers();
        messageLoads();
        messageCommands();
        lookAtNoReplica();
        lookAtNoK();
        lookAtOneThatIsDown();
        lookAtNoCampaign();
        lookPastTheLastSlot();
        valueAtNoReplica();
        valueOfNoKey();
        valueOfOneThatIsDown();
        voteOfNoReplica();
        voteForNoSlot();
        voteThatIsNone();
        voteForNothing();
        voteOfTheGreatestRequest();
        replyToNoRequest();
        replyNotHeard();
        replyHeardLatest();
        heardOfNoRequest();
        heardAgain();
        CHECK.end();
    }

    /** Promise 13: "-1 if there is no such message" */
    private static void messageOfNoMessage() {
        MajorityMap x = new MajorityMap();
        for (int k = 0; k <= 5; k++) {
            CHECK.due("an empty net, k = " + k, x.message(0, k), -1);
        }
        x.timer(0);
        for (int i : new int[] {-1, 2, 31, 32, Integer.MIN_VALUE, Integer.MAX_VALUE}) {
            CHECK.due("message " + i + " of two", x.message(i, 0), -1);
        }
        x.drop(0);
        CHECK.due("where the newest was", x.message(1, 0), -1);
        Play.fillNet(x, 0, 1);
        CHECK.due("message 31 of 32", x.message(31, 0), Play.FETCH);
        CHECK.due("message 32 of 32", x.message(32, 0), -1);
    }

    /** Promise 13: "or k is not 0 .. 5" */
    private static void messageOfNoK() {
        MajorityMap x = new MajorityMap();
        x.timer(0);
        for (int k : new int[] {-1, 6, 7, Integer.MIN_VALUE, Integer.MAX_VALUE}) {
            CHECK.due("k = " + k, x.message(0, k), -1);
        }
        CHECK.due("k = 0", x.message(0, 0), Play.PREPARE);
        CHECK.due("k = 5", x.message(0, 5), 0);
    }

    /** Replica 0 leads; request 2 is asked, proposed for slot 1 and voted for by replica 1. */
    private static MajorityMap withOneVote() {
        MajorityMap x = Play.ledBy(0);
        x.ask(Play.ADD, 0, 1);
        x.ask(Play.ADD, 0, 1);
        x.send(2, 0);
        Play.deliver(x, Play.ACCEPT, 0, 1);
        return x;
    }

    private static void dueNewest(String what, MajorityMap x, int k, int want) {
        CHECK.due(what, x.message(x.waiting() - 1, k), want);
    }

    /**
     * Promise 13: "3 its number (PREPARE, PROMISE, REFUSE: the ballot; ACCEPT, VOTED, LEARN: the slot; FETCH: f; STATE:
     * the slot up to which the state goes)"
     */
    private static void messageNumbers() {
        MajorityMap x = withOneVote();
        dueNewest("VOTED: the slot", x, 3, 1);
        CHECK.due("ACCEPT: the slot", x.message(Play.find(x, Play.ACCEPT, 0, 2), 3), 1);
        Play.deliver(x, Play.VOTED, 1, 0);
        dueNewest("LEARN: the slot", x, 3, 1);
        x.fetch(0, 1);
        dueNewest("FETCH: f", x, 3, 1);
        x.fetch(3, 0);
        dueNewest("FETCH: f", x, 3, 0);
        Play.deliver(x, Play.FETCH, 3, 0);
        dueNewest("STATE: the slot up to which the state goes", x, 3, 1);
        x.timer(3);
        dueNewest("PREPARE: the ballot", x, 3, 8);
        Play.deliver(x, Play.PREPARE, 3, 1);
        dueNewest("PROMISE: the ballot", x, 3, 8);
        x.timer(2);
        Play.deliver(x, Play.PREPARE, 2, 1);
        dueNewest("REFUSE: the ballot", x, 3, 8);
    }

    /** Promise 13: "(PROMISE: how many votes it carries; STATE: how many requests are done in it; else 0)" */
    private static void messageLoads() {
        MajorityMap x = withOneVote();
        dueNewest("VOTED", x, 4, 0);
        CHECK.due("ACCEPT", x.message(Play.find(x, Play.ACCEPT, 0, 2), 4), 0);
        Play.deliver(x, Play.VOTED, 1, 0);
        dueNewest("LEARN", x, 4, 0);
        x.fetch(3, 0);
        dueNewest("FETCH", x, 4, 0);
        Play.deliver(x, Play.FETCH, 3, 0);
        dueNewest("STATE of one request", x, 4, 1);
        x.timer(2);
        x.timer(3);
        dueNewest("PREPARE", x, 4, 0);
        Play.deliver(x, Play.PREPARE, 3, 1);
        dueNewest("PROMISE of one vote", x, 4, 1);
        Play.deliver(x, Play.PREPARE, 3, 2);
        dueNewest("PROMISE of no vote", x, 4, 0);
        Play.deliver(x, Play.PREPARE, 2, 1);
        dueNewest("REFUSE", x, 0, Play.REFUSE);
        dueNewest("REFUSE", x, 4, 0);
        allSlots();
    }

    private static void allSlots() {
        MajorityMap x = Play.ledThrough(0, 24);
        Play.bounce(x, 3);
        x.fetch(3, 0);
        x.deliver(0);
        dueNewest("STATE of all slots", x, 3, 24);
        dueNewest("STATE of 24 requests", x, 4, 24);
        x.timer(4);
        Play.deliver(x, Play.PREPARE, 4, 1);
        dueNewest("PROMISE of 24 votes", x, 4, 24);
    }

    /** Promise 13: "5 its command (ACCEPT, LEARN: the request's number, 0 for NOTHING; else 0)" */
    private static void messageCommands() {
        MajorityMap x = withOneVote();
        dueNewest("VOTED", x, 5, 0);
        CHECK.due("ACCEPT", x.message(Play.find(x, Play.ACCEPT, 0, 2), 5), 2);
        Play.deliver(x, Play.VOTED, 1, 0);
        dueNewest("LEARN", x, 5, 2);
        x.fetch(3, 0);
        dueNewest("FETCH", x, 5, 0);
        Play.deliver(x, Play.FETCH, 3, 0);
        dueNewest("STATE", x, 5, 0);
        x.timer(2);
        x.timer(3);
        dueNewest("PREPARE", x, 5, 0);
        Play.deliver(x, Play.PREPARE, 3, 1);
        dueNewest("PROMISE", x, 5, 0);
        Play.deliver(x, Play.PREPARE, 2, 1);
        dueNewest("REFUSE", x, 0, Play.REFUSE);
        dueNewest("REFUSE", x, 5, 0);
        nothingIsACommand();
    }

    private static void nothingIsACommand() {
        MajorityMap x = Play.ledBy(0);
        x.ask(Play.ADD, 0, 1);
        x.ask(Play.ADD, 0, 1);
        x.send(1, 0);
        x.send(2, 0);
        Play.deliver(x, Play.ACCEPT, 0, 1, 2);
        Play.dropAll(x);
        x.timer(2);
        Play.collectPromise(x, 2, 1);
        CHECK.due("ACCEPT of NOTHING", x.message(Play.find(x, Play.ACCEPT, 2, 1, 1), 5), 0);
        Play.collectVote(x, 2, 1, 1);
        CHECK.due("LEARN of NOTHING", x.message(Play.find(x, Play.LEARN, 2, 1, 1), 5), 0);
    }

    /** Promise 14: "-1 if there is no replica r" */
    private static void lookAtNoReplica() {
        MajorityMap x = new MajorityMap();
        for (int r : NO_REPLICA) {
            for (int k = 0; k <= 7; k++) {
                CHECK.due("look(" + r + ", " + k + ")", x.look(r, k), -1);
            }
        }
        CHECK.due("replica 0", x.look(0, 0), 1);
        CHECK.due("replica 4", x.look(4, 0), 1);
    }

    /** Promise 14: "or k is not 0 .. 7" */
    private static void lookAtNoK() {
        MajorityMap x = Play.ledBy(0);
        for (int k : new int[] {-1, 8, 9, Integer.MIN_VALUE, Integer.MAX_VALUE}) {
            CHECK.due("k = " + k, x.look(0, k), -1);
        }
        CHECK.due("k = 0", x.look(0, 0), 1);
        CHECK.due("k = 7", x.look(0, 7), 7);
    }

    /** Promise 14: "(for one that is down, as the crash left it)" */
    private static void lookAtOneThatIsDown() {
        MajorityMap x = Play.ledBy(0);
        Play.perform(x, 0, Play.MEMBERS, 0, 15);
        Play.perform(x, 0, Play.MEMBERS, 0, 31);
        Play.perform(x, 0, Play.READ, 0, 0);
        x.cut(0);
        Play.perform(x, 0, Play.READ, 0, 0);
        Play.dueLook(CHECK, "up", x, 0, 1, 5, 3, 4, 5, 1, 31, 7);
        x.crash(0);
        Play.dueLook(CHECK, "down", x, 0, 0, 5, 3, 3, 0, 0, 15, 0);
    }

    /** Promise 14: "4 BALLOT if it campaigns, else 0; 5 1 if it leads, else 0; [..] 7 HEARD if it campaigns, else 0" */
    private static void lookAtNoCampaign() {
        MajorityMap x = new MajorityMap();
        Play.dueLook(CHECK, "never", x, 1, 1, 0, 0, 0, 0, 0, 7, 0);
        x.timer(1);
        Play.dueLook(CHECK, "campaigns", x, 1, 1, 6, 0, 0, 6, 0, 7, 2);
        Play.collectPromise(x, 1, 0);
        Play.dueLook(CHECK, "leads", x, 1, 1, 6, 0, 0, 6, 1, 7, 3);
        x.timer(2);
        Play.deliver(x, Play.PREPARE, 2, 1);
        Play.dueLook(CHECK, "over", x, 1, 1, 7, 0, 0, 0, 0, 7, 0);
    }

    /** Promise 14: "6 the membership of slot e + 1", e = 24 */
    private static void lookPastTheLastSlot() {
        MajorityMap x = Play.ledBy(0);
        for (int s = 1; s <= 24; s++) {
            Play.perform(x, 0, s == 22 ? Play.MEMBERS : Play.ADD, 0, s == 22 ? 13 : 1);
        }
        Play.dueLook(CHECK, "slot 25 is of M(22)", x, 0, 1, 5, 0, 24, 5, 1, 13, 7);
    }

    /** Promise 15: "0 if there is no replica r" */
    private static void valueAtNoReplica() {
        MajorityMap x = Play.ledThrough(0, 1);
        for (int r : NO_REPLICA) {
            CHECK.due("replica " + r, x.value(r, 0), 0);
        }
        CHECK.due("replica 0", x.value(0, 0), 1);
        CHECK.due("replica 4", x.value(4, 0), 1);
    }

    /** Promise 15: "or key is not 0 .. 3" */
    private static void valueOfNoKey() {
        MajorityMap x = Play.ledBy(0);
        for (int key = 0; key < 4; key++) {
            Play.perform(x, 0, Play.PUT, key, 10 + key);
        }
        for (int key : new int[] {-1, 4, Integer.MIN_VALUE, Integer.MAX_VALUE}) {
            CHECK.due("key " + key, x.value(0, key), 0);
        }
        CHECK.due("key 0", x.value(0, 0), 10);
        CHECK.due("key 3", x.value(0, 3), 13);
    }

    /** Promise 15: "(for one that is down, its snapshot)" */
    private static void valueOfOneThatIsDown() {
        MajorityMap x = Play.ledThrough(0, 1);
        x.cut(3);
        Play.perform(x, 0, Play.ADD, 0, 1);
        CHECK.due("up", x.value(3, 0), 2);
        x.crash(3);
        CHECK.due("down", x.value(3, 0), 1);
        x.crash(4);
        CHECK.due("down without a cut", x.value(4, 0), 0);
    }

    /** Promise 16: "-1 if there is no replica r" */
    private static void voteOfNoReplica() {
        MajorityMap x = Play.ledThrough(0, 1);
        for (int r : NO_REPLICA) {
            CHECK.due("replica " + r, x.vote(r, 1), -1);
        }
        CHECK.due("replica 0", x.vote(0, 1), 64 * 5 + 1);
        CHECK.due("replica 4", x.vote(4, 1), 0);
    }

    /** Promise 16: "or s is not 1 .. 24" */
    private static void voteForNoSlot() {
        MajorityMap x = Play.ledThrough(0, 24);
        for (int s : new int[] {0, -1, 25, 26, Integer.MIN_VALUE, Integer.MAX_VALUE}) {
            CHECK.due("slot " + s, x.vote(0, s), -1);
        }
        CHECK.due("slot 1", x.vote(0, 1), 64 * 5 + 1);
        CHECK.due("slot 24", x.vote(0, 24), 64 * 5 + 24);
    }

    /** Promise 16: "0 if it has none" */
    private static void voteThatIsNone() {
        MajorityMap x = Play.ledThrough(0, 1);
        CHECK.due("never voted", x.vote(3, 1), 0);
        CHECK.due("not for that slot", x.vote(0, 2), 0);
        x.cut(0);
        CHECK.due("forgotten", x.vote(0, 1), 0);
    }

    /** Promise 16: "64 * ballot + the number of its request (0 for NOTHING)" */
    private static void voteForNothing() {
        MajorityMap x = Play.ledBy(0);
        x.ask(Play.ADD, 0, 1);
        x.ask(Play.ADD, 0, 1);
        x.send(1, 0);
        x.send(2, 0);
        Play.deliver(x, Play.ACCEPT, 0, 1, 2);
        Play.dropAll(x);
        x.timer(2);
        Play.collectPromise(x, 2, 1);
        CHECK.due("NOTHING", x.vote(2, 1), 64 * 7);
        CHECK.due("a request", x.vote(2, 2), 64 * 7 + 2);
    }

    /** Promise 16: "64 * ballot + the number of its request", request 40 and a great ballot */
    private static void voteOfTheGreatestRequest() {
        MajorityMap x = new MajorityMap();
        for (int q = 1; q <= 40; q++) {
            x.ask(Play.READ, 0, 0);
        }
        for (int n = 1; n <= 60; n++) {
            x.timer(0);
            Play.bounce(x, 0);
            Play.dropAll(x);
        }
        x.timer(0);
        Play.collectPromise(x, 0, 1);
        x.send(40, 0);
        CHECK.due("ballot 305", x.vote(0, 1), 64 * 305 + 40);
    }

    /** Promise 17: "0 if [..] there is no request q" */
    private static void replyToNoRequest() {
        MajorityMap x = Play.ledThrough(0, 1);
        for (int q : NO_REQUEST) {
            CHECK.due("request " + q, x.reply(q), 0);
        }
        CHECK.due("request 1", x.reply(1), 1);
    }

    /** Promise 17: "0 if none was heard" */
    private static void replyNotHeard() {
        MajorityMap x = withOneVote();
        CHECK.due("proposed and voted for", x.reply(2), 0);
        CHECK.due("asked", x.reply(1), 0);
        Play.deliver(x, Play.VOTED, 1, 0);
        CHECK.due("heard", x.reply(2), 1);
        CHECK.due("the other one", x.reply(1), 0);
    }

    /** Promise 17: "The answer that the client heard latest for request q" */
    private static void replyHeardLatest() {
        MajorityMap x = Play.ledThrough(0, 2);
        CHECK.due("the answer of slot 1", x.reply(1), 1);
        CHECK.due("the answer of slot 2", x.reply(2), 2);
        x.send(1, 3);
        CHECK.due("heard again", x.reply(1), 1);
        CHECK.due("the other one", x.reply(2), 2);
        int zero = Play.perform(x, 0, Play.ADD, 0, -2);
        CHECK.due("an answer of 0 is heard", x.heard(zero), 1);
        CHECK.due("as 0", x.reply(zero), 0);
    }

    /** Promise 18: "0 if there is no request q" */
    private static void heardOfNoRequest() {
        MajorityMap x = Play.ledThrough(0, 1);
        for (int q : NO_REQUEST) {
            CHECK.due("request " + q, x.heard(q), 0);
        }
        CHECK.due("request 1", x.heard(1), 1);
    }

    /** Promise 18: "(the same one again counts, too)" */
    private static void heardAgain() {
        MajorityMap x = Play.ledThrough(0, 1);
        for (int n = 1; n <= 5; n++) {
            CHECK.due("heard " + n + " times", x.heard(1), n);
            CHECK.due("the same answer", x.reply(1), 1);
            x.send(1, n % 5);
        }
        x.send(1, Integer.MAX_VALUE);
        CHECK.due("a refused send does not count", x.heard(1), 6);
    }
}
