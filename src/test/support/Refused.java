import java.util.function.Consumer;
import java.util.function.Supplier;

/** A call that is refused: it throws what is due, and two objects made alike stay alike, one of which refused it. */
final class Refused {
    private Refused() {
    }

    static void bounds(String told, Supplier<Intergreen> made, Consumer<Intergreen> call) {
        refused(told, IndexOutOfBoundsException.class, made, call);
    }

    static void argument(String told, Supplier<Intergreen> made, Consumer<Intergreen> call) {
        refused(told, IllegalArgumentException.class, made, call);
    }

    static void state(String told, Supplier<Intergreen> made, Consumer<Intergreen> call) {
        refused(told, IllegalStateException.class, made, call);
    }

    private static void refused(String told, Class<?> due, Supplier<Intergreen> made, Consumer<Intergreen> call) {
        Intergreen called = made.get();
        Intergreen left = made.get();
        Check.refused(told, due, () -> call.accept(called));
        Check.text(told + ", asked then", Account.of(called), Account.of(left));
        Check.text(told + ", going on", Account.goingOn(called), Account.goingOn(left));
    }
}
