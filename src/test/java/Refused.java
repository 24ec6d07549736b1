import java.util.function.Consumer;
import java.util.function.Supplier;

/** A refused call throws just what is due and leaves no trace: a twin without the call is the same. */
final class Refused {
    private Refused() {
    }

    static void index(String what, Supplier<ConstructionLedger> made, Consumer<ConstructionLedger> call) {
        call(what, IndexOutOfBoundsException.class, made, call);
    }

    static void argument(String what, Supplier<ConstructionLedger> made, Consumer<ConstructionLedger> call) {
        call(what, IllegalArgumentException.class, made, call);
    }

    static void state(String what, Supplier<ConstructionLedger> made, Consumer<ConstructionLedger> call) {
        call(what, IllegalStateException.class, made, call);
    }

    private static void call(String what, Class<?> want, Supplier<ConstructionLedger> made,
            Consumer<ConstructionLedger> call) {
        ConstructionLedger x = made.get();
        Check.fails(what, want, () -> call.accept(x));
        Check.yes(what + " leaves all as it was", Trace.whole(x).equals(Trace.whole(made.get())));
    }
}
