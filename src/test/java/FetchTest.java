/** Promise 11. */
public final class FetchTest {
    private static final Check CHECK = new Check("FetchTest");

    public static void main(String[] args) {
        MajorityMap x = new MajorityMap();
        for (int far : Play.FAR) {
            CHECK.due("fetch(" + far + ", 0)", x.fetch(far, 0), false);
            CHECK.due("fetch(0, " + far + ")", x.fetch(0, far), false);
        }
        CHECK.due("fetch(5, 0)", x.fetch(5, 0), false);
        CHECK.due("fetch(0, 5)", x.fetch(0, 5), false);
        for (int r = 0; r < 5; r++) {
            CHECK.due("from itself", x.fetch(r, r), false);
        }
        CHECK.due("nothing was sent", x.waiting(), 0);
        x.crash(1);
        CHECK.due("one that is down", x.fetch(1, 0), false);
        CHECK.due("from one that is down", x.fetch(0, 1), true);
        Play.dueMessage(CHECK, "fetch", x, 0, Play.FETCH, 0, 1, 0, 0, 0);
        fullNet();
        carriesExecuted();
        CHECK.end();
    }

    private static void fullNet() {
        MajorityMap x = new MajorityMap();
        for (int n = 1; n <= 32; n++) {
            CHECK.due("fetch " + n, x.fetch(0, 1), true);
            CHECK.due("waiting", x.waiting(), n);
        }
        CHECK.due("32 wait", x.fetch(0, 1), false);
        CHECK.due("waiting", x.waiting(), 32);
        x.drop(31);
        CHECK.due("31 wait", x.fetch(2, 1), true);
    }

    private static void carriesExecuted() {
        MajorityMap x = Play.ledBy(0);
        Play.perform(x, 0, Play.ADD, 0, 1);
        x.cut(3);
        Play.perform(x, 0, Play.ADD, 0, 1);
        x.fetch(3, 4);
        CHECK.due("EXECUTED, not FLOOR", x.message(0, 3), 2);
        Play.perform(x, 0, Play.ADD, 0, 1);
        x.fetch(3, 4);
        CHECK.due("EXECUTED of now", x.message(0, 3), 3);
    }
}
