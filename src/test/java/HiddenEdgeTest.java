/**
 * Sentences of the document that hold in cases which no calls bring about, or of things which no call shows. Here
 * messages are forged that nobody would have sent, and it is looked up inside what a replica knows.
 */
public final class HiddenEdgeTest {
    private static final Check CHECK = new Check("HiddenEdgeTest");

    public static void main(String[] args) {
        votedWithNothingProposed();
        votedWithNothingProposedBesideAProposal();
        votedBeforeTheProposal();
        learnOfAnotherCommandUpToExecuted();
        learnUpToFloor();
        learnOfAnotherCommandForAKnownSlot();
        learnOfARequestForASlotKnownAsNothing();
        installForgetsWhatIsKnownUpToThere();
        installByAPromiseForgetsWhatIsKnown();
        cutForgetsWhatIsKnownUpToThere();
        cutWithNothingExecutedForgetsNothing();
        crashForgetsAllThatIsKnown();
        CHECK.end();
    }

    private static void forgeVoted(MajorityMap x, int from, int to, int ballot, int slot) {
        Inside.forge(x, Play.VOTED, from, to, ballot, slot, 0);
    }

    private static void forgeLearn(MajorityMap x, int to, int slot, int command) {
        Inside.forge(x, Play.LEARN, 0, to, 0, slot, command);
    }

    private static void dueKnown(String what, MajorityMap x, int r, int... want) {
        for (int i = 0; i < want.length; i++) {
            CHECK.due(what + ": known for slot " + (i + 1), Inside.known(x, r, i + 1), want[i]);
        }
    }

    /** 4 VOTED: "Nothing, if [..] nothing is proposed for s." */
    private static void votedWithNothingProposed() {
        for (int s = 1; s <= 24; s++) {
            MajorityMap x = Play.ledBy(0);
            forgeVoted(x, 1, 0, 5, s);
            forgeVoted(x, 2, 0, 5, s);
            CHECK.due("one vote for slot " + s, x.deliver(0), 0);
            CHECK.due("a majority for slot " + s, x.deliver(0), 0);
            CHECK.due("not known", Inside.known(x, 0, s), -1);
            Play.dueLook(CHECK, "slot " + s, x, 0, 1, 5, 0, 0, 5, 1, 7, 7);
        }
    }

    /** 4 VOTED: "Nothing, if [..] nothing is proposed for s." */
    private static void votedWithNothingProposedBesideAProposal() {
        MajorityMap x = Play.proposing(1);
        Play.dropAll(x);
        forgeVoted(x, 1, 0, 5, 2);
        forgeVoted(x, 2, 0, 5, 2);
        CHECK.due("one vote", x.deliver(0), 0);
        CHECK.due("a majority", x.deliver(0), 0);
        dueKnown("nothing is known", x, 0, -1, -1);
        CHECK.due("the proposal for slot 1 still misses both", x.timer(0), 2);
    }

    /** 4 VOTED: "Nothing, if [..] nothing is proposed for s. Otherwise the sender is put among those who voted" */
    private static void votedBeforeTheProposal() {
        MajorityMap x = Play.ledBy(0);
        forgeVoted(x, 1, 0, 5, 1);
        x.deliver(0);
        x.ask(Play.PUT, 0, 7);
        CHECK.due("proposes", x.send(1, 0), 2);
        Play.dropAll(x);
        CHECK.due("nobody has voted", x.timer(0), 2);
    }

    /** 5 LEARN: "Nothing, if s <= e" */
    private static void learnOfAnotherCommandUpToExecuted() {
        for (int s = 1; s <= 2; s++) {
            MajorityMap x = Play.ledThrough(0, 2);
            x.ask(Play.PUT, 0, 70);
            forgeLearn(x, 1, s, 3);
            CHECK.due("slot " + s + " is executed", x.deliver(0), 0);
            dueKnown("as before", x, 1, 1, 2, -1);
            CHECK.due("value", x.value(1, 0), 2);
            CHECK.due("EXECUTED", x.look(1, 3), 2);
        }
    }

    /** 5 LEARN: "Nothing, if s <= e", though s is no longer known */
    private static void learnUpToFloor() {
        for (int s = 1; s <= 2; s++) {
            MajorityMap x = Play.ledThrough(0, 2);
            x.cut(1);
            forgeLearn(x, 1, s, 1);
            CHECK.due("slot " + s + " is in the snapshot", x.deliver(0), 0);
            dueKnown("none", x, 1, -1, -1, -1);
        }
    }

    /** 5 LEARN: "Nothing, if [..] s is known." */
    private static void learnOfAnotherCommandForAKnownSlot() {
        MajorityMap x = new MajorityMap();
        x.ask(Play.PUT, 0, 7);
        x.ask(Play.PUT, 0, 8);
        forgeLearn(x, 3, 2, 1);
        forgeLearn(x, 3, 2, 2);
        forgeLearn(x, 3, 2, 0);
        forgeLearn(x, 3, 1, 0);
        CHECK.due("the first", x.deliver(0), 0);
        CHECK.due("another request", x.deliver(0), 0);
        CHECK.due("NOTHING", x.deliver(0), 0);
        dueKnown("the first stays", x, 3, -1, 1);
        CHECK.due("slot 1", x.deliver(0), 0);
        CHECK.due("both are executed", x.look(3, 3), 2);
        CHECK.due("by the first", x.value(3, 0), 7);
    }

    /** 5 LEARN: "Nothing, if [..] s is known.": it is known, too, where the command is NOTHING */
    private static void learnOfARequestForASlotKnownAsNothing() {
        MajorityMap x = new MajorityMap();
        x.ask(Play.PUT, 0, 7);
        forgeLearn(x, 3, 2, 0);
        forgeLearn(x, 3, 2, 1);
        x.deliver(0);
        x.deliver(0);
        dueKnown("NOTHING stays", x, 3, -1, 0);
    }

    /** INSTALL: "known commands for slots up to f are forgotten" */
    private static void installForgetsWhatIsKnownUpToThere() {
        MajorityMap x = Play.ledThrough(0, 3);
        Play.bounce(x, 1);
        forgeLearn(x, 1, 2, 2);
        forgeLearn(x, 1, 3, 3);
        forgeLearn(x, 1, 5, 1);
        Play.settle(x);
        dueKnown("before", x, 1, -1, 2, 3, -1, 1);
        x.fetch(1, 0);
        Play.settle(x);
        Play.dueLook(CHECK, "installed", x, 1, 1, 5, 3, 3);
        dueKnown("up to 3 forgotten, above not", x, 1, -1, -1, -1, -1, 1);
    }

    /** 2 PROMISE: "it INSTALLS the snapshot"; INSTALL: "known commands for slots up to f are forgotten" */
    private static void installByAPromiseForgetsWhatIsKnown() {
        MajorityMap x = Play.ledThrough(0, 3);
        x.cut(0);
        Play.bounce(x, 1);
        forgeLearn(x, 1, 3, 3);
        forgeLearn(x, 1, 5, 1);
        Play.settle(x);
        x.timer(1);
        Play.collectPromise(x, 1, 0);
        Play.dueLook(CHECK, "installed", x, 1, 1, 6, 3, 3, 6, 1, 7, 3);
        dueKnown("up to 3 forgotten, above not", x, 1, -1, -1, -1, -1, 1);
    }

    /** Promise 10: "known commands for slots up to there are forgotten" */
    private static void cutForgetsWhatIsKnownUpToThere() {
        MajorityMap x = Play.ledThrough(0, 3);
        forgeLearn(x, 1, 5, 1);
        Play.settle(x);
        dueKnown("before", x, 1, 1, 2, 3, -1, 1);
        CHECK.due("votes forgotten", x.cut(1), 3);
        dueKnown("up to 3 forgotten, above not", x, 1, -1, -1, -1, -1, 1);
    }

    /** Promise 10: "FLOOR becomes EXECUTED, and [..] known commands for slots up to there are forgotten." */
    private static void cutWithNothingExecutedForgetsNothing() {
        MajorityMap x = new MajorityMap();
        x.ask(Play.PUT, 0, 7);
        forgeLearn(x, 1, 2, 1);
        x.deliver(0);
        CHECK.due("votes forgotten", x.cut(1), 0);
        dueKnown("slot 2 is above", x, 1, -1, 1);
    }

    /** Promise 8: "nothing is known" */
    private static void crashForgetsAllThatIsKnown() {
        MajorityMap x = Play.ledThrough(0, 2);
        forgeLearn(x, 1, 4, 1);
        forgeLearn(x, 1, 24, 1);
        Play.settle(x);
        x.crash(1);
        for (int s = 1; s <= 24; s++) {
            CHECK.due("known for slot " + s, Inside.known(x, 1, s), -1);
        }
    }
}
