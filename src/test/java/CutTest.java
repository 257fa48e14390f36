/** Promise 10. */
public final class CutTest {
    private static final Check CHECK = new Check("CutTest");

    public static void main(String[] args) {
        wrongReplicas();
        nothingToCut();
        forgetsWhatIsExecuted();
        countsVotesAlone();
        keepsTheStateOfThen();
        leaderGoesOn();
        CHECK.end();
    }

    private static void wrongReplicas() {
        MajorityMap x = Play.ledBy(0);
        Play.perform(x, 0, Play.PUT, 0, 1);
        for (int far : Play.FAR) {
            CHECK.due("cut(" + far + ")", x.cut(far), -1);
        }
        CHECK.due("cut(5)", x.cut(5), -1);
        x.crash(1);
        CHECK.due("one that is down", x.cut(1), -1);
        CHECK.due("its vote stays", x.vote(1, 1), 64 * 5 + 1);
    }

    private static void nothingToCut() {
        MajorityMap x = new MajorityMap();
        CHECK.due("a new one", x.cut(0), 0);
        CHECK.due("FLOOR", x.look(0, 2), 0);
    }

    private static void forgetsWhatIsExecuted() {
        MajorityMap x = Play.ledBy(0);
        for (int q = 1; q <= 3; q++) {
            x.ask(Play.ADD, 0, q);
            x.send(q, 0);
        }
        for (int s = 1; s <= 2; s++) {
            Play.deliver(x, Play.ACCEPT, 0, 1, s);
            Play.deliver(x, Play.VOTED, 1, 0, s);
        }
        CHECK.due("two of three votes", x.cut(0), 2);
        CHECK.due("FLOOR", x.look(0, 2), 2);
        CHECK.due("EXECUTED", x.look(0, 3), 2);
        CHECK.due("slot 1", x.vote(0, 1), 0);
        CHECK.due("slot 2", x.vote(0, 2), 0);
        CHECK.due("slot 3 stays", x.vote(0, 3), 64 * 5 + 3);
        CHECK.due("again", x.cut(0), 0);
        CHECK.due("replica 1 has executed nothing", x.cut(1), 0);
        CHECK.due("its votes stay", x.vote(1, 1), 64 * 5 + 1);
    }

    private static void countsVotesAlone() {
        MajorityMap x = Play.ledBy(0);
        Play.perform(x, 0, Play.ADD, 0, 1);
        Play.perform(x, 0, Play.ADD, 0, 1);
        CHECK.due("replica 4 never voted", x.cut(4), 0);
        CHECK.due("FLOOR all the same", x.look(4, 2), 2);
    }

    private static void keepsTheStateOfThen() {
        MajorityMap x = Play.ledBy(0);
        Play.perform(x, 0, Play.ADD, 0, 1);
        x.cut(2);
        Play.perform(x, 0, Play.ADD, 0, 1);
        CHECK.due("present", x.value(2, 0), 2);
        x.crash(2);
        CHECK.due("snapshot", x.value(2, 0), 1);
    }

    private static void leaderGoesOn() {
        MajorityMap x = Play.ledBy(0);
        Play.perform(x, 0, Play.ADD, 0, 1);
        x.cut(0);
        CHECK.due("it still leads", x.look(0, 5), 1);
        Play.perform(x, 0, Play.ADD, 0, 1);
        CHECK.due("next", x.value(0, 0), 2);
        x.timer(4);
        Play.deliver(x, Play.PREPARE, 4, 0);
        int i = Play.find(x, Play.PROMISE, 0, 4);
        CHECK.due("one vote is left to tell", x.message(i, 4), 1);
    }
}
