/** Compares answers with those that are due, prints the wrong ones and ends the test's program. */
final class Check {
    private String prefix = "";
    private int tests = 0;
    private int compared = 0;
    private int wrong = 0;

    /** Runs one named test; every wrong answer in it is printed with its name. */
    void test(String name, Runnable body) {
        prefix = name + " | ";
        tests++;
        int before = compared;
        try {
            body.run();
        } catch (RuntimeException thrown) {
            // No call of the class may throw; the tests after this one still tell more.
            fail("threw " + thrown);
        }
        if (compared == before) {
            fail("compared nothing");
        }
        prefix = "";
    }

    void due(String call, long got, long want) {
        compared++;
        if (got != want) {
            wrong++;
            System.out.println(prefix + call + " answered " + got + ", due is " + want);
        }
    }

    void due(String call, boolean got, boolean want) {
        due(call, got ? 1L : 0L, want ? 1L : 0L);
    }

    void due(String what, String got, String want) {
        compared++;
        if (!got.equals(want)) {
            wrong++;
            System.out.println(prefix + what + "\n  is  " + got + "\n  due " + want);
        }
    }

    void fail(String what) {
        compared++;
        wrong++;
        System.out.println(prefix + what);
    }

    void end() {
        String named = tests == 0 ? "" : tests + " tests, ";
        System.out.println(named + compared + " answers compared, " + wrong + " wrong");
        if (wrong != 0 || compared == 0) {
            System.exit(1);
        }
    }
}
