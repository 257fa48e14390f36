/** Promise 1. */
public final class NewObjectTest {
    private static final Check CHECK = new Check("NewObjectTest");

    public static void main(String[] args) {
        isEmpty("first", new MajorityMap());
        objectsAreApart();
        CHECK.end();
    }

    private static void isEmpty(String what, MajorityMap x) {
        CHECK.due(what + ": waiting()", x.waiting(), 0);
        CHECK.due(what + ": message(0, 0)", x.message(0, 0), -1);
        CHECK.due(what + ": send(1, 0)", x.send(1, 0), -1);
        for (int r = 0; r < 5; r++) {
            Play.dueLook(CHECK, what, x, r, 1, 0, 0, 0, 0, 0, 7, 0);
            for (int key = 0; key < 4; key++) {
                CHECK.due(what + ": value(" + r + ", " + key + ")", x.value(r, key), 0);
            }
            for (int s = 1; s <= 24; s++) {
                CHECK.due(what + ": vote(" + r + ", " + s + ")", x.vote(r, s), 0);
            }
        }
        for (int q = 1; q <= 40; q++) {
            CHECK.due(what + ": reply(" + q + ")", x.reply(q), 0);
            CHECK.due(what + ": heard(" + q + ")", x.heard(q), 0);
        }
        CHECK.due(what + ": first request", x.ask(Play.PUT, 0, 1), 1);
    }

    private static void objectsAreApart() {
        MajorityMap used = Play.ledBy(0);
        Play.perform(used, 0, Play.PUT, 0, 5);
        used.crash(3);
        used.fetch(1, 0);
        isEmpty("beside a used one", new MajorityMap());
        CHECK.due("the used one", used.value(0, 0), 5);
    }
}
