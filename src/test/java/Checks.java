/** Counts the answers of a test class that are as due, and prints those that are not. */
final class Checks {
    private static int passed = 0;
    private static int failed = 0;

    private Checks() {
    }

    static void due(String what, long want, long got) {
        note(want == got, what, Long.toString(want), Long.toString(got));
    }

    static void due(String what, double want, double got) {
        note(Double.compare(want, got) == 0, what, Double.toString(want), Double.toString(got));
    }

    static void due(String what, String want, String got) {
        note(want.equals(got), what, want, got);
    }

    /** The call must throw this very class: one of its subclasses would be the machine's own. */
    static void refused(String what, Class<? extends RuntimeException> want, Runnable call) {
        String got = "nothing thrown";
        try {
            call.run();
        } catch (RuntimeException e) {
            got = e.getClass().getName();
        }
        note(want.getName().equals(got), what, want.getName(), got);
    }

    /** The call must throw this very class and leave the writer as it was. */
    static void refusedBy(KeypadWriter writer, String what, Class<? extends RuntimeException> want, Runnable call) {
        long before = writer.digest();
        refused(what, want, call);
        due("digest behind the refused " + what, before, writer.digest());
    }

    static void finish(String name) {
        System.out.println(name + ": " + passed + " answers as due, " + failed + " not as due");
        if (failed != 0 || passed == 0) {
            System.exit(1);
        }
    }

    private static void note(boolean right, String what, String want, String got) {
        if (right) {
            passed++;
        } else {
            failed++;
            System.out.println(what + " answered " + got + ", due is " + want);
        }
    }
}
