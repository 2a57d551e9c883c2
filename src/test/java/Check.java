/** Counts the checks of a test, and prints those that are not as due. */
final class Check {
    private static int passed;
    private static int failed;
    /** What stands ahead of each line that is printed, such as the sentence that is tested. */
    private static String place = "";

    private Check() {
    }

    static void at(String newPlace) {
        place = newPlace;
    }

    static int made() {
        return passed + failed;
    }

    private static void count(boolean right, String line) {
        if (right) {
            passed++;
        } else {
            failed++;
            System.out.println(place + line);
        }
    }

    static void due(String what, long got, long want) {
        count(got == want, what + " answered " + got + ", due is " + want);
    }

    static void holds(String what, boolean holds) {
        due(what, holds ? 1 : 0, 1);
    }

    /** A call that must throw just this exception. */
    static void thrown(String what, Class<? extends RuntimeException> due, Runnable call) {
        String got = "nothing";
        try {
            call.run();
        } catch (RuntimeException e) {
            got = e.getClass().getName();
        }
        count(got.equals(due.getName()), what + " threw " + got + ", due is " + due.getName());
    }

    /** A call on the crane that must throw just this exception, and change nothing. */
    static void fails(String what, CraneLimiter crane, Class<? extends RuntimeException> due, Runnable call) {
        long before = crane.digest();
        thrown(what, due, call);
        due(what + " leaves the digest", crane.digest(), before);
    }

    static void noIndex(String what, CraneLimiter crane, Runnable call) {
        fails(what, crane, IndexOutOfBoundsException.class, call);
    }

    static void noArgument(String what, CraneLimiter crane, Runnable call) {
        fails(what, crane, IllegalArgumentException.class, call);
    }

    static void noState(String what, CraneLimiter crane, Runnable call) {
        fails(what, crane, IllegalStateException.class, call);
    }

    static void finish(String test) {
        System.out.println(test + ": " + passed + " passed, " + failed + " failed");
        if (failed != 0 || passed == 0) {
            System.exit(1);
        }
    }
}
