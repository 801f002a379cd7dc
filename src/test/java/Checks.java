/** Counts the answers that are not as due, and prints them. */
final class Checks {
    private int wrong = 0;
    private int made = 0;
    private String about = "";

    void about(String what) {
        about = what;
    }

    void due(String call, long got, long want) {
        made++;
        if (got != want) {
            wrong++;
            if (wrong <= 40) {
                System.out.println(about + ": " + call + " answered " + got + ", due is " + want);
            }
        }
    }

    void isTrue(String what, boolean holds) {
        due(what, holds ? 1 : 0, 1);
    }

    boolean anyWrong() {
        return wrong != 0;
    }

    void end() {
        System.out.println(wrong == 0 ? made + " checks hold" : wrong + " of " + made + " checks do not hold");
        if (wrong != 0) {
            System.exit(1);
        }
    }
}
