import java.util.ArrayList;
import java.util.List;
import java.util.function.Supplier;
import java.util.function.ToIntFunction;

/**
 * "A call that is refused (an answer of -1 or false) changes nothing." Two objects come into the same situation, one of
 * them gets the refused call, and then both must show the same and answer the same calls in the same way. Calls that
 * only look are compared likewise.
 */
public final class RefusedCallTest {
    private static final Check CHECK = new Check("RefusedCallTest");
    private static final int[] NO_REPLICA = {-1, 5, Integer.MIN_VALUE, Integer.MAX_VALUE};
    private static final int[] NO_NUMBER = {-1, 99, Integer.MIN_VALUE, Integer.MAX_VALUE};
    private static final int DOWN = 2;
    private static final int SLOTS_LOOKED_AT = 5;

    public static void main(String[] args) {
        refusedAsk();
        refusedSend();
        refusedForNoReplica();
        refusedForOneThatIsDown();
        refusedRestart();
        refusedForNoMessage();
        refusedFetch();
        refusedInAFullNet();
        looks();
        CHECK.end();
    }

    /**
     * Replica 0 leads with ballot 10. Slots 1 and 2 are executed, and replica 0 knows slot 4, but not slot 3. Replica
     * 2, which has voted and cut, is down; replica 3 has forgotten all; replica 4 campaigns in vain; messages of four
     * kinds wait.
     */
    private static MajorityMap busy() {
        MajorityMap x = Play.ledThrough(0, 1);
        x.cut(1);
        x.cut(DOWN);
        Play.perform(x, 0, Play.MEMBERS, 0, 15);
        Play.bounce(x, 3);
        Play.bounce(x, 0);
        for (int q = 3; q <= 6; q++) {
            x.ask(Play.ADD, q % 4, q);
        }
        x.timer(0);
        Play.settle(x);
        x.send(3, 0);
        x.send(4, 0);
        Play.collectVote(x, 0, 1, 4);
        x.timer(4);
        x.fetch(3, 0);
        x.deliver(x.waiting() - 1);
        x.crash(DOWN);
        return x;
    }

    private static MajorityMap full() {
        MajorityMap x = busy();
        for (int n = 0; n < 32; n++) {
            x.copy(n % 3);
        }
        return x;
    }

    private static MajorityMap allAsked() {
        MajorityMap x = Play.ledBy(0);
        for (int q = 1; q <= 40; q++) {
            x.ask(Play.ADD, 0, q);
        }
        x.send(40, 0);
        return x;
    }

    private static List<Integer> everything(MajorityMap x) {
        List<Integer> seen = new ArrayList<>();
        int waits = x.waiting();
        for (int i = 0; i < waits; i++) {
            for (int k = 0; k <= 5; k++) {
                seen.add(x.message(i, k));
            }
        }
        for (int r = 0; r < 5; r++) {
            for (int k = 0; k <= 7; k++) {
                seen.add(x.look(r, k));
            }
            for (int s = 1; s <= SLOTS_LOOKED_AT; s++) {
                seen.add(x.vote(r, s));
            }
        }
        seen.addAll(answers(x));
        return seen;
    }

    private static List<Integer> answers(MajorityMap x) {
        List<Integer> seen = new ArrayList<>();
        for (int r = 0; r < 5; r++) {
            seen.add(x.look(r, 3));
            for (int key = 0; key < 4; key++) {
                seen.add(x.value(r, key));
            }
        }
        for (int q = 1; q <= 7; q++) {
            seen.add(x.reply(q));
            seen.add(x.heard(q));
        }
        return seen;
    }

    /** What a replica knows, collected and proposed shows only in what it does next. */
    private static List<Integer> aftermath(MajorityMap x) {
        List<Integer> seen = new ArrayList<>();
        seen.add(x.ask(Play.READ, 0, 0));
        seen.add(x.restart(DOWN) ? 1 : 0);
        for (int r = 0; r < 5; r++) {
            seen.add(x.send(1, r));
        }
        for (int q = 3; q <= 6; q++) {
            seen.add(x.send(q, 0));
        }
        seen.add(x.timer(0));
        int answer = 0;
        for (int n = 0; n < 40 && answer != -1; n++) {
            answer = x.deliver(0);
            seen.add(answer);
        }
        seen.addAll(answers(x));
        return seen;
    }

    private static void changesNothing(String what, Supplier<MajorityMap> situation, ToIntFunction<MajorityMap> call) {
        MajorityMap untouched = situation.get();
        MajorityMap called = situation.get();
        call.applyAsInt(called);
        CHECK.due(what + " shows no change", everything(called).equals(everything(untouched)), true);
        CHECK.due(what + " has no effect later", aftermath(called).equals(aftermath(untouched)), true);
    }

    private static void refused(String what, Supplier<MajorityMap> situation, ToIntFunction<MajorityMap> call) {
        CHECK.due(what, call.applyAsInt(situation.get()), -1);
        changesNothing(what, situation, call);
    }

    private static int orRefused(boolean answer) {
        return answer ? 1 : -1;
    }

    private static void refusedAsk() {
        refused("ask of kind -1", RefusedCallTest::busy, x -> x.ask(-1, 0, 7));
        refused("ask of kind 5", RefusedCallTest::busy, x -> x.ask(5, 0, 7));
        refused("ask of key -1", RefusedCallTest::busy, x -> x.ask(Play.PUT, -1, 7));
        refused("ask of key 4", RefusedCallTest::busy, x -> x.ask(Play.PUT, 4, 7));
        for (int v : new int[] {-1, 0, 1, 2, 4, 8, 16, 32, 35}) {
            refused("ask of MEMBERS " + v, RefusedCallTest::busy, x -> x.ask(Play.MEMBERS, 0, v));
        }
        for (int kind = 0; kind <= 4; kind++) {
            int which = kind;
            refused("the 41st ask, of kind " + kind, RefusedCallTest::allAsked, x -> x.ask(which, 0, 7));
        }
    }

    private static void refusedSend() {
        for (int q : new int[] {-1, 0, 7, 41, Integer.MIN_VALUE, Integer.MAX_VALUE}) {
            refused("send of no request " + q, RefusedCallTest::busy, x -> x.send(q, 0));
            refused("send of no request " + q + " to one that is down", RefusedCallTest::busy, x -> x.send(q, DOWN));
        }
        for (int r : NO_REPLICA) {
            refused("send of what is done to no replica " + r, RefusedCallTest::busy, x -> x.send(1, r));
            refused("send of what is not to no replica " + r, RefusedCallTest::busy, x -> x.send(6, r));
        }
    }

    private static void refusedForNoReplica() {
        for (int r : NO_REPLICA) {
            refused("timer of no replica " + r, RefusedCallTest::busy, x -> x.timer(r));
            refused("cut of no replica " + r, RefusedCallTest::busy, x -> x.cut(r));
            refused("crash of no replica " + r, RefusedCallTest::busy, x -> orRefused(x.crash(r)));
            refused("restart of no replica " + r, RefusedCallTest::busy, x -> orRefused(x.restart(r)));
        }
    }

    private static void refusedForOneThatIsDown() {
        refused("timer of one that is down", RefusedCallTest::busy, x -> x.timer(DOWN));
        refused("cut of one that is down", RefusedCallTest::busy, x -> x.cut(DOWN));
        refused("crash of one that is down", RefusedCallTest::busy, x -> orRefused(x.crash(DOWN)));
        refused("fetch by one that is down", RefusedCallTest::busy, x -> orRefused(x.fetch(DOWN, 0)));
    }

    private static void refusedRestart() {
        for (int r : new int[] {0, 1, 3, 4}) {
            refused("restart of " + r + ", which is up", RefusedCallTest::busy, x -> orRefused(x.restart(r)));
        }
    }

    private static void refusedForNoMessage() {
        for (int i : NO_NUMBER) {
            refused("deliver of no message " + i, RefusedCallTest::busy, x -> x.deliver(i));
            refused("drop of no message " + i, RefusedCallTest::busy, x -> orRefused(x.drop(i)));
            refused("copy of no message " + i, RefusedCallTest::busy, x -> orRefused(x.copy(i)));
        }
        refused("deliver behind the newest", RefusedCallTest::busy, x -> x.deliver(x.waiting()));
        refused("drop behind the newest", RefusedCallTest::busy, x -> orRefused(x.drop(x.waiting())));
        refused("copy behind the newest", RefusedCallTest::busy, x -> orRefused(x.copy(x.waiting())));
        refused("deliver in an empty net", MajorityMap::new, x -> x.deliver(0));
        refused("drop in an empty net", MajorityMap::new, x -> orRefused(x.drop(0)));
        refused("copy in an empty net", MajorityMap::new, x -> orRefused(x.copy(0)));
    }

    private static void refusedFetch() {
        for (int r : NO_REPLICA) {
            refused("fetch by no replica " + r, RefusedCallTest::busy, x -> orRefused(x.fetch(r, 0)));
            refused("fetch from no replica " + r, RefusedCallTest::busy, x -> orRefused(x.fetch(0, r)));
        }
        for (int r = 0; r < 5; r++) {
            int self = r;
            refused("fetch by " + r + " from itself", RefusedCallTest::busy, x -> orRefused(x.fetch(self, self)));
        }
    }

    private static void refusedInAFullNet() {
        CHECK.due("the net is full", full().waiting(), 32);
        refused("fetch when 32 wait", RefusedCallTest::full, x -> orRefused(x.fetch(3, 0)));
        refused("copy of the oldest when 32 wait", RefusedCallTest::full, x -> orRefused(x.copy(0)));
        refused("copy of the newest when 32 wait", RefusedCallTest::full, x -> orRefused(x.copy(31)));
        refused("deliver of message 32", RefusedCallTest::full, x -> x.deliver(32));
        refused("drop of message 32", RefusedCallTest::full, x -> orRefused(x.drop(32)));
    }

    private static void looks() {
        changesNothing("waiting", RefusedCallTest::busy, x -> x.waiting());
        for (int n : new int[] {-1, 0, 1, 5, 24, 41, Integer.MIN_VALUE, Integer.MAX_VALUE}) {
            changesNothing("message(" + n + ", 3)", RefusedCallTest::busy, x -> x.message(n, 3));
            changesNothing("message(0, " + n + ")", RefusedCallTest::busy, x -> x.message(0, n));
            changesNothing("look(" + n + ", 5)", RefusedCallTest::busy, x -> x.look(n, 5));
            changesNothing("look(0, " + n + ")", RefusedCallTest::busy, x -> x.look(0, n));
            changesNothing("value(" + n + ", 0)", RefusedCallTest::busy, x -> x.value(n, 0));
            changesNothing("value(0, " + n + ")", RefusedCallTest::busy, x -> x.value(0, n));
            changesNothing("vote(" + n + ", 1)", RefusedCallTest::busy, x -> x.vote(n, 1));
            changesNothing("vote(0, " + n + ")", RefusedCallTest::busy, x -> x.vote(0, n));
            changesNothing("reply(" + n + ")", RefusedCallTest::busy, x -> x.reply(n));
            changesNothing("heard(" + n + ")", RefusedCallTest::busy, x -> x.heard(n));
        }
    }
}
