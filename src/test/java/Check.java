/** Counts and prints the answers that are not as due. */
final class Check {
    private final String name;
    private int wrong;
    private int looked;

    Check(String name) {
        this.name = name;
    }

    void due(String what, long got, long want) {
        looked++;
        if (got != want) {
            wrong++;
            System.out.println(name + ": " + what + " answered " + got + ", due is " + want);
        }
    }

    void due(String what, boolean got, boolean want) {
        due(what, got ? 1 : 0, want ? 1 : 0);
    }

    void end() {
        if (looked == 0) {
            System.out.println(name + ": nothing was looked at");
            System.exit(1);
        }
        if (wrong != 0) {
            System.out.println(name + ": " + wrong + " of " + looked + " answers are not as due");
            System.exit(1);
        }
        System.out.println(name + ": all " + looked + " answers are as due");
    }
}
