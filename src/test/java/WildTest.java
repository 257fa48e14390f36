import java.util.Random;

/** No call throws, whatever its arguments are and however many calls there were before. */
public final class WildTest {
    private static final Random RANDOM = new Random(7);

    public static void main(String[] args) {
        Check check = new Check("WildTest");
        for (int run = 0; run < 40; run++) {
            MajorityMap x = new MajorityMap();
            for (int call = 0; call < 5000; call++) {
                callOne(x, RANDOM.nextInt(17));
                boolean isNetInBounds = x.waiting() >= 0 && x.waiting() <= 32;
                check.due("the net's size", isNetInBounds, true);
            }
        }
        check.end();
    }

    private static int any() {
        return RANDOM.nextInt(10) == 0 ? RANDOM.nextInt() : RANDOM.nextInt(8) - 1;
    }

    private static void callOne(MajorityMap x, int which) {
        switch (which) {
            case 0: x.ask(any(), any(), any()); break;
            case 1: x.send(any(), any()); break;
            case 2: x.timer(any()); break;
            case 3: x.drop(any()); break;
            case 4: x.copy(any()); break;
            case 5: x.crash(any()); break;
            case 6: x.restart(any()); break;
            case 7: x.cut(any()); break;
            case 8: x.fetch(any(), any()); break;
            case 9: x.message(any(), any()); break;
            case 10: x.look(any(), any()); break;
            case 11: x.value(any(), any()); break;
            case 12: x.vote(any(), any()); break;
            case 13: x.reply(any()); break;
            case 14: x.heard(any()); break;
            default: x.deliver(any()); break;
        }
    }
}
