/** Compares answers with those that are due, tells every wrong one, and ends a test with exit code 1 then. */
final class Check {
    private int compared = 0;
    private int wrong = 0;

    void same(String call, long got, long due) {
        compared++;
        if (got != due) {
            wrong++;
            System.out.println(call + " answered " + got + ", due is " + due);
        }
    }

    void sameDouble(String call, double got, double due) {
        compared++;
        if (Double.compare(got, due) != 0) {
            wrong++;
            System.out.println(call + " answered " + got + ", due is " + due);
        }
    }

    void holds(String claim, boolean so) {
        compared++;
        if (!so) {
            wrong++;
            System.out.println("not so: " + claim);
        }
    }

    boolean hasWrong() {
        return wrong > 0;
    }

    void end(String test) {
        System.out.println(test + ": " + compared + " compared, " + wrong + " wrong");
        if (wrong > 0) {
            System.exit(1);
        }
    }
}
