import java.util.function.Consumer;
import java.util.function.Supplier;

/** Two writers that were made alike: what one of them was called in vain must not show in anything that follows. */
final class Twins {
    private Twins() {
    }

    /** The call must throw this very class and change nothing, the saved states and the list text too. */
    static void refused(String what, Supplier<KeypadWriter> maker, Class<? extends RuntimeException> want,
            Consumer<KeypadWriter> call) {
        KeypadWriter caller = maker.get();
        Checks.refused(what, want, () -> call.accept(caller));
        Checks.due("changed by the refused " + what, traceOf(maker.get()), traceOf(caller));
    }

    /** The call must not throw and must change nothing. */
    static void asked(String what, Supplier<KeypadWriter> maker, Consumer<KeypadWriter> call) {
        KeypadWriter caller = maker.get();
        call.accept(caller);
        Checks.due("changed by " + what, traceOf(maker.get()), traceOf(caller));
    }

    /** The call must save one state, and undo() must bring back all; the maker's writer has at most 3 saved states. */
    static void undone(String what, Supplier<KeypadWriter> maker, Consumer<KeypadWriter> call) {
        KeypadWriter caller = maker.get();
        KeypadWriter twin = maker.get();
        int before = Hands.savedStates(twin);
        call.accept(caller);
        Checks.due("saved states that remain behind undo of " + what, before, caller.undo());
        Checks.due("not undone of " + what, traceOf(maker.get()), traceOf(caller));
    }

    /** Call and digest of now, of each saved state, and of the list text when it is loaded. */
    private static String traceOf(KeypadWriter writer) {
        StringBuilder trace = new StringBuilder();
        trace.append(writer.digest());
        boolean more = true;
        for (int i = 0; more && i < 6; i++) {
            try {
                int left = writer.undo();
                trace.append(" undo ").append(left).append(' ').append(writer.digest());
            } catch (IllegalStateException e) {
                more = false;
            }
        }
        trace.append(" load ").append(writer.load()).append(' ').append(writer.digest());
        return trace.append(" bytes ").append(writer.clearText()).toString();
    }
}
