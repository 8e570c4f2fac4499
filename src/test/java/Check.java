/** Counts the checks of a test and tells those that fail. */
final class Check {
    interface Call {
        long answer();
    }

    private int passed;
    private int failed;

    void is(String what, long got, long want) {
        if (got == want) {
            passed++;
        } else {
            fail(what + " answered " + got + ", due is " + want);
        }
    }

    void isTrue(String what, boolean holds) {
        if (holds) {
            passed++;
        } else {
            fail(what);
        }
    }

    /** The class must be the very one: a subclass would be one that the machine itself throws. */
    void refuses(String what, Class<?> due, Call call) {
        Class<?> thrown = thrownBy(call);
        if (thrown == due) {
            passed++;
        } else {
            fail(what + " threw " + thrown + ", due is " + due);
        }
    }

    static Class<?> thrownBy(Call call) {
        try {
            call.answer();
            return null;
        } catch (RuntimeException e) {
            return e.getClass();
        }
    }

    /** Makes each call once; both must answer the same or throw exceptions of the same class. */
    void same(String what, Call got, Call due) {
        String gotOutcome = outcomeOf(got);
        String dueOutcome = outcomeOf(due);
        if (gotOutcome.equals(dueOutcome)) {
            passed++;
        } else {
            fail(what + " gave " + gotOutcome + ", due is " + dueOutcome);
        }
    }

    private static String outcomeOf(Call call) {
        try {
            return Long.toString(call.answer());
        } catch (RuntimeException e) {
            return e.getClass().getName();
        }
    }

    private void fail(String text) {
        failed++;
        if (failed <= 20) {
            System.out.println("wrong: " + text);
        }
    }

    void end() {
        System.out.println("checks: " + passed + " passed, " + failed + " failed");
        if (failed != 0) {
            System.exit(1);
        }
    }
}
