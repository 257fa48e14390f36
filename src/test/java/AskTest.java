/** Promise 2, and what the kinds of requests do when they are executed. */
public final class AskTest {
    private static final Check CHECK = new Check("AskTest");

    public static void main(String[] args) {
        numbersFollowOneAnother();
        wrongKindsAndKeys();
        onlyMembershipsForKind4();
        fortyAtMost();
        refusedTakesNoNumber();
        lastRequestActs();
        kindsAct();
        addWraps();
        membersChangeThreeSlotsLater();
        membersThatIsDoneActsOnce();
        CHECK.end();
    }

    private static void numbersFollowOneAnother() {
        MajorityMap x = new MajorityMap();
        for (int kind = 0; kind <= 4; kind++) {
            CHECK.due("ask of kind " + kind, x.ask(kind, 3, 7), kind + 1);
        }
        CHECK.due("a v that is no membership", x.ask(Play.READ, 0, Integer.MIN_VALUE), 6);
        CHECK.due("asking sends nothing", x.waiting(), 0);
    }

    private static void wrongKindsAndKeys() {
        MajorityMap x = new MajorityMap();
        for (int far : Play.FAR) {
            CHECK.due("kind " + far, x.ask(far, 0, 7), -1);
            CHECK.due("key " + far, x.ask(Play.PUT, far, 7), -1);
            CHECK.due("key of MEMBERS " + far, x.ask(Play.MEMBERS, far, 7), -1);
        }
        CHECK.due("kind 5", x.ask(5, 0, 7), -1);
        CHECK.due("key 4", x.ask(Play.READ, 4, 7), -1);
        CHECK.due("key 4 of MEMBERS", x.ask(Play.MEMBERS, 4, 7), -1);
        CHECK.due("key 3", x.ask(Play.READ, 3, 7), 1);
    }

    private static void onlyMembershipsForKind4() {
        MajorityMap x = new MajorityMap();
        int given = 0;
        for (int v = -2; v <= 40; v++) {
            boolean isMembership = v >= 3 && v <= 31 && v != 4 && v != 8 && v != 16;
            CHECK.due("MEMBERS " + v, x.ask(Play.MEMBERS, 0, v), isMembership ? ++given : -1);
        }
        CHECK.due("how many memberships there are", given, 26);
        for (int far : Play.FAR) {
            CHECK.due("MEMBERS " + far, x.ask(Play.MEMBERS, 0, far), -1);
        }
        CHECK.due("more than 5 bits", x.ask(Play.MEMBERS, 0, 32 + 3), -1);
    }

    private static void fortyAtMost() {
        MajorityMap x = new MajorityMap();
        for (int q = 1; q <= 40; q++) {
            CHECK.due("request " + q, x.ask(Play.PUT, 0, q), q);
        }
        CHECK.due("the 41st", x.ask(Play.PUT, 0, 1), -1);
        CHECK.due("again", x.ask(Play.MEMBERS, 0, 7), -1);
        CHECK.due("the 40th is there", x.send(40, 0), 0);
        CHECK.due("the 41st is not", x.send(41, 0), -1);
    }

    private static void refusedTakesNoNumber() {
        MajorityMap x = new MajorityMap();
        x.ask(9, 0, 0);
        x.ask(Play.MEMBERS, 0, 16);
        CHECK.due("first", x.ask(Play.READ, 0, 0), 1);
        x.ask(Play.READ, -1, 0);
        CHECK.due("second", x.ask(Play.READ, 0, 0), 2);
    }

    private static void lastRequestActs() {
        MajorityMap x = Play.ledBy(0);
        for (int q = 1; q <= 39; q++) {
            x.ask(Play.READ, 0, 0);
        }
        int last = Play.perform(x, 0, Play.ADD, 0, 8);
        CHECK.due("its number", last, 40);
        CHECK.due("reply", x.reply(40), 8);
        CHECK.due("heard", x.heard(40), 1);
        CHECK.due("done", x.send(40, 4), 1);
        CHECK.due("request 39 is not", x.send(39, 4), 0);
    }

    private static void kindsAct() {
        MajorityMap x = Play.ledBy(0);
        dueStep(x, "READ of nothing", Play.READ, 2, 99, 0, 0);
        dueStep(x, "PUT", Play.PUT, 2, 5, 0, 5);
        dueStep(x, "PUT over it", Play.PUT, 2, -6, 5, -6);
        dueStep(x, "READ", Play.READ, 2, 99, -6, -6);
        dueStep(x, "ADD", Play.ADD, 2, 10, 4, 4);
        dueStep(x, "CLAIM of what is taken", Play.CLAIM, 2, 8, 4, 4);
        dueStep(x, "CLAIM of what is free", Play.CLAIM, 1, 8, 0, 8);
        dueStep(x, "MEMBERS", Play.MEMBERS, 2, 15, 7, 4);
        dueStep(x, "MEMBERS again", Play.MEMBERS, 2, 7, 15, 4);
        CHECK.due("another key", x.value(0, 0), 0);
        CHECK.due("the claimed key", x.value(0, 1), 8);
        CHECK.due("on another replica", x.value(4, 1), 8);
    }

    private static void dueStep(MajorityMap x, String what, int kind, int key, int v, int reply, int after) {
        int q = Play.perform(x, 0, kind, key, v);
        CHECK.due(what + ": reply", x.reply(q), reply);
        CHECK.due(what + ": heard", x.heard(q), 1);
        CHECK.due(what + ": value", x.value(0, key), after);
    }

    private static void addWraps() {
        MajorityMap x = Play.ledBy(1);
        Play.perform(x, 1, Play.PUT, 0, Integer.MAX_VALUE);
        int q = Play.perform(x, 1, Play.ADD, 0, 1);
        CHECK.due("up", x.reply(q), Integer.MIN_VALUE);
        q = Play.perform(x, 1, Play.ADD, 0, -1);
        CHECK.due("down", x.reply(q), Integer.MAX_VALUE);
    }

    private static void membersChangeThreeSlotsLater() {
        MajorityMap x = Play.ledBy(0);
        Play.perform(x, 0, Play.MEMBERS, 0, 11);
        CHECK.due("the membership of slot 2", x.look(0, 6), 7);
        Play.perform(x, 0, Play.READ, 0, 0);
        CHECK.due("the membership of slot 3", x.look(0, 6), 7);
        Play.perform(x, 0, Play.MEMBERS, 0, 7);
        CHECK.due("the membership of slot 4", x.look(0, 6), 11);
        Play.perform(x, 0, Play.READ, 0, 0);
        CHECK.due("the membership of slot 5", x.look(0, 6), 11);
        Play.perform(x, 0, Play.READ, 0, 0);
        CHECK.due("the membership of slot 6", x.look(0, 6), 7);
        CHECK.due("what replica 3 executed", x.look(3, 3), 5);
        CHECK.due("where replica 3 stands", x.look(3, 6), 7);
    }

    /** The same request wins two slots: leaders that know nothing of each other's proposals bring that about. */
    private static void membersThatIsDoneActsOnce() {
        MajorityMap x = Play.ledBy(0);
        int members = x.ask(Play.MEMBERS, 0, 31);
        int back = x.ask(Play.MEMBERS, 0, 7);
        x.send(back, 0);
        x.send(members, 0);
        Play.dropAll(x);
        x.crash(0);
        x.timer(1);
        x.drop(Play.find(x, Play.PREPARE, 1, 0));
        Play.settle(x);
        x.send(members, 1);
        Play.settle(x);
        CHECK.due("acted in slot 1", x.look(1, 3), 1);
        x.restart(0);
        x.timer(0);
        Play.settle(x);
        x.timer(0);
        Play.settle(x);
        CHECK.due("slot 2 is executed, too", x.look(0, 3), 2);
        CHECK.due("as the same request", x.vote(0, 2) % 64, members);
        CHECK.due("the answer of the first time", x.reply(members), 7);
        Play.perform(x, 0, Play.READ, 0, 0);
        Play.perform(x, 0, Play.READ, 0, 0);
        CHECK.due("the membership of slot 5", x.look(0, 6), 31);
        CHECK.due("the other request never acted", x.heard(back), 0);
    }
}
