/** Counts the answers that are not as due, and ends a test. */
final class Check {
    private int asked;
    private int wrong;

    void due(String call, long got, long want) {
        asked++;
        if (got != want) {
            wrong++;
            if (wrong <= 50) {
                System.out.println(call + " answered " + got + ", due is " + want);
            }
        }
    }

    void that(String what, boolean holds) {
        due(what, holds ? 1 : 0, 1);
    }

    boolean clean() {
        return wrong == 0;
    }

    void end(String name) {
        System.out.println(name + ": " + asked + " answers, " + wrong + " not as due");
        if (wrong != 0 || asked == 0) {
            System.exit(1);
        }
    }
}
