/** Counts and prints the answers that are not the ones that are due. */
final class Checks {
    private String part = "";
    private int made = 0;
    private int wrong = 0;

    void begin(String name) {
        part = name;
    }

    void due(String what, long got, long want) {
        made++;
        if (got != want) {
            wrong++;
            System.out.println(part + ": " + what + " is " + got + ", due is " + want);
        }
    }

    void dueTrue(String what, boolean holds) {
        made++;
        if (!holds) {
            wrong++;
            System.out.println(part + ": does not hold: " + what);
        }
    }

    boolean hasWrong() {
        return wrong > 0;
    }

    void end() {
        System.out.println(made + " checks, " + wrong + " wrong");
        if (wrong > 0) {
            System.exit(1);
        }
    }
}
