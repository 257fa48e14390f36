import java.util.Random;

/**
 * Long runs of drawn calls, each answer compared with the reference's, and what is known at the end, too. In one style
 * messages are forged in between, so that sentences are reached that calls alone don't lead to. The draws are the same
 * in every run.
 */
public final class ReferenceTest {
    private static final int RUNS = 9000;
    private static final int CALLS = 512;
    private static final int CALM = 0;
    private static final int STEADY = 1;
    private static final int RIVALS = 4;
    private static final int NEWEST_FIRST = 5;
    private static final int CROWDED = 6;
    private static final int LATE = 7;
    private static final int LEAST_BALLOT = 5;
    private static final int FORGED = 8;
    private static final int STYLES = 9;
    private static final int[] TROUBLE = {0, 10, 25, 60, 15, 5, 0, 15, 10};
    private static final int[] FORGEABLE = {1, 3, 4, 4, 4, 5, 5, 5, 6, 7};
    private static final int[] WRONG = {-1, 5, 24, 25, 32, 41, Integer.MIN_VALUE, Integer.MAX_VALUE};

    private final Check check = new Check("ReferenceTest");
    private final int[] seenSend = new int[5];
    private final int[] seenKind = new int[9];
    private int runsToTheEnd;
    private int mostExecuted;
    private int lostToAFullNet;
    private int sendsPastTheEnd;
    private int timersIntoAFullNet;
    private int votesForNoProposal;
    private int otherCommandsLearnt;

    private Random random;
    private MajorityMap map;
    private Reference reference;
    private int asked;
    private boolean failed;

    public static void main(String[] args) {
        new ReferenceTest().run();
    }

    private void run() {
        for (int seed = 1; seed <= RUNS && !failed; seed++) {
            random = new Random(seed);
            map = new MajorityMap();
            reference = new Reference();
            asked = 0;
            playOne(seed);
        }
        checkReach();
        check.end();
    }

    private void playOne(int seed) {
        int style = seed % STYLES;
        int first = style == LATE ? comeNearTheEnd(seed) : 1;
        for (int call = first; call <= CALLS && !failed; call++) {
            boolean looks = random.nextInt(style == CALM ? 12 : 4) == 0;
            if (looks) {
                observe(seed, call);
            } else {
                act(seed, call, style);
            }
        }
        compareKnown(seed);
        votesForNoProposal += reference.votesForNoProposal;
        otherCommandsLearnt += reference.otherCommandsLearnt;
        int end = 0;
        for (int r = 0; r < 5; r++) {
            end = Math.max(end, reference.look(r, 3));
        }
        mostExecuted = Math.max(mostExecuted, end);
        if (end == 24) {
            runsToTheEnd++;
        }
    }

    private void compareKnown(int seed) {
        for (int r = 0; r < 5; r++) {
            for (int s = 1; s <= 24; s++) {
                same(seed, CALLS, "known(" + r + ", " + s + ")", Inside.known(map, r, s), reference.known(r, s));
            }
        }
    }

    /** Drawn calls seldom bring rivals to the last slots, so here most slots are used up in good order. */
    private int comeNearTheEnd(int seed) {
        int slots = 19 + random.nextInt(5);
        int call = 1;
        same(seed, call++, "timer(0)", map.timer(0), reference.timer(0));
        for (int q = 0; q <= slots; q++) {
            if (q > 0) {
                same(seed, call++, "ask(2, 0, 1)", map.ask(2, 0, 1), reference.ask(2, 0, 1));
                same(seed, call++, "send(" + q + ", 0)", map.send(q, 0), reference.send(q, 0));
            }
            while (reference.waiting() > 0) {
                same(seed, call++, "deliver(0)", map.deliver(0), reference.deliver(0));
            }
        }
        asked = slots;
        return call;
    }

    /** Without this a change of the draws could leave whole promises untouched and nobody would see it. */
    private void checkReach() {
        for (int answer = 0; answer < seenSend.length; answer++) {
            check.due("send answered " + answer + " in many runs", seenSend[answer] > 1000, true);
        }
        for (int kind = 1; kind < seenKind.length; kind++) {
            check.due("kind " + kind + " was delivered often", seenKind[kind] > 1000, true);
        }
        check.due("the last slot was executed in many runs", runsToTheEnd > 100, true);
        check.due("the last slot that was executed", mostExecuted, 24);
        check.due("requests were sent when the slots were used up", sendsPastTheEnd > 100, true);
        check.due("messages were lost to a full net", lostToAFullNet > 100, true);
        check.due("clocks struck while the net was full", timersIntoAFullNet > 1000, true);
        check.due("votes came for what was not proposed", votesForNoProposal > 1000, true);
        check.due("known slots were told otherwise", otherCommandsLearnt > 1000, true);
    }

    private int replica() {
        return random.nextInt(60) == 0 ? wrong() : random.nextInt(5);
    }

    private int request() {
        return random.nextInt(60) == 0 ? random.nextInt(44) - 1 : 1 + random.nextInt(Math.max(asked, 1));
    }

    private int waitingMessage() {
        int many = reference.waiting();
        if (many == 0 || random.nextInt(80) == 0) {
            return wrong();
        }
        return random.nextBoolean() ? 0 : random.nextInt(many);
    }

    private int wrong() {
        return WRONG[random.nextInt(WRONG.length)];
    }

    private void same(int seed, int call, String text, int got, int want) {
        check.due("seed " + seed + ", call " + call + ": " + text, got, want);
        failed |= got != want;
    }

    private void same(int seed, int call, String text, boolean got, boolean want) {
        same(seed, call, text, got ? 1 : 0, want ? 1 : 0);
    }

    private void act(int seed, int call, int style) {
        int draw = random.nextInt(1000);
        int trouble = TROUBLE[style];
        if (style == FORGED && asked > 0 && random.nextInt(6) == 0) {
            forgeOne(seed, call);
        } else if (asked < 3 || draw < (style == CALM ? 90 : 50)) {
            askOne(seed, call, style);
        } else if (draw < 250) {
            sendOne(seed, call, style);
        } else if (draw < 250 + timers(style)) {
            strikeOne(seed, call, style);
        } else if (draw < 300 + timers(style) + 4 * trouble) {
            disturb(seed, call, trouble);
        } else {
            deliverOne(seed, call, style);
        }
    }

    /** Near what the receiver holds, as most of what is drawn wildly would come to nothing. */
    private void forgeOne(int seed, int call) {
        int kind = FORGEABLE[random.nextInt(FORGEABLE.length)];
        int to = kind == 4 ? campaigner() : random.nextInt(5);
        int from = (to + 1 + random.nextInt(4)) % 5;
        int ballot = Math.max(reference.look(to, 1) + (kind == 4 ? 0 : random.nextInt(5) - 2), LEAST_BALLOT);
        int slot = kind == 7 ? random.nextInt(25)
                : Math.max(1, Math.min(24, reference.look(to, 3) + random.nextInt(6) - 1));
        int command = kind == 3 || kind == 5 ? random.nextInt(asked + 1) : 0;
        String text = "forge(" + kind + ", " + from + ", " + to + ", " + ballot + ", " + slot + ", " + command + ")";
        same(seed, call, text, Inside.forge(map, kind, from, to, ballot, slot, command),
                reference.forge(kind, from, to, ballot, slot, command));
    }

    private int campaigner() {
        int found = random.nextInt(5);
        for (int r = 0; r < 5; r++) {
            if (reference.look(r, 4) > 0 && random.nextBoolean()) {
                found = r;
            }
        }
        return found;
    }

    private int timers(int style) {
        return style == CALM ? 10 : style == RIVALS || style == LATE ? 90 : style == CROWDED ? 300 : 30;
    }

    private void strikeOne(int seed, int call, int style) {
        boolean keepsOneLeader = style == CALM || style == STEADY && random.nextInt(20) != 0;
        int r = keepsOneLeader ? 0 : replica();
        int before = reference.waiting();
        int want = reference.timer(r);
        same(seed, call, "timer(" + r + ")", map.timer(r), want);
        if (before >= 31 && want >= 0) {
            timersIntoAFullNet++;
        }
    }

    private void askOne(int seed, int call, int style) {
        int kind = random.nextInt(40) == 0 ? wrong() : random.nextInt(20) < memberships(style) ? 4 : random.nextInt(4);
        int key = random.nextInt(40) == 0 ? wrong() : random.nextInt(4);
        int v = kind == 4 ? random.nextInt(34) - 1 : random.nextInt(9) == 0 ? random.nextInt() : random.nextInt(7) - 3;
        int want = reference.ask(kind, key, v);
        same(seed, call, "ask(" + kind + ", " + key + ", " + v + ")", map.ask(kind, key, v), want);
        asked = Math.max(asked, want);
    }

    private int memberships(int style) {
        return style == CALM ? 0 : 3;
    }

    private void sendOne(int seed, int call, int style) {
        int q = style == CALM && random.nextInt(4) != 0 ? Math.min(1 + reference.look(0, 3) + random.nextInt(3), asked)
                : request();
        int r = replica();
        for (int leader = 0; leader < 5; leader++) {
            if (reference.look(leader, 5) == 1 && random.nextInt(3) != 0) {
                r = leader;
            }
        }
        int want = reference.send(q, r);
        same(seed, call, "send(" + q + ", " + r + ")", map.send(q, r), want);
        if (want >= 0) {
            seenSend[want]++;
        }
        if (want == 4 && reference.look(r, 3) == 24) {
            sendsPastTheEnd++;
        }
    }

    private void deliverOne(int seed, int call, int style) {
        int i = style == NEWEST_FIRST && random.nextInt(3) != 0 ? reference.waiting() - 1 : waitingMessage();
        int kind = Math.max(reference.message(i, 0), 0);
        int want = reference.deliver(i);
        same(seed, call, "deliver(" + i + ")", map.deliver(i), want);
        if (want >= 0) {
            seenKind[kind]++;
        }
        if (kind == 4 && want > 0 && want < 4) {
            lostToAFullNet++;
        }
    }

    private void disturb(int seed, int call, int trouble) {
        int r = replica();
        int p = replica();
        int i = waitingMessage();
        int draw = random.nextInt(60 + 2 * trouble);
        if (draw < 15) {
            same(seed, call, "copy(" + i + ")", map.copy(i), reference.copy(i));
        } else if (draw < 30) {
            same(seed, call, "fetch(" + r + ", " + p + ")", map.fetch(r, p), reference.fetch(r, p));
        } else if (draw < 40) {
            same(seed, call, "cut(" + r + ")", map.cut(r), reference.cut(r));
        } else if (draw < 60) {
            same(seed, call, "restart(" + r + ")", map.restart(r), reference.restart(r));
        } else if (draw < 60 + trouble / 2) {
            same(seed, call, "crash(" + r + ")", map.crash(r), reference.crash(r));
        } else {
            same(seed, call, "drop(" + i + ")", map.drop(i), reference.drop(i));
        }
    }

    private void observe(int seed, int call) {
        int r = replica();
        int q = request();
        int k = random.nextInt(11) - 1;
        int s = random.nextInt(27) - 1;
        int i = waitingMessage();
        switch (random.nextInt(7)) {
            case 0:
                same(seed, call, "waiting()", map.waiting(), reference.waiting());
                break;
            case 1:
                same(seed, call, "message(" + i + ", " + k + ")", map.message(i, k), reference.message(i, k));
                break;
            case 2:
                same(seed, call, "look(" + r + ", " + k + ")", map.look(r, k), reference.look(r, k));
                break;
            case 3:
                same(seed, call, "value(" + r + ", " + k + ")", map.value(r, k), reference.value(r, k));
                break;
            case 4:
                same(seed, call, "vote(" + r + ", " + s + ")", map.vote(r, s), reference.vote(r, s));
                break;
            case 5:
                same(seed, call, "reply(" + q + ")", map.reply(q), reference.reply(q));
                break;
            default:
                same(seed, call, "heard(" + q + ")", map.heard(q), reference.heard(q));
                break;
        }
    }
}
