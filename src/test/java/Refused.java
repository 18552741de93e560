import java.util.function.Consumer;
import java.util.function.Supplier;

/** Calls that throw: the exception is just the one that is due, and nothing differs by it. */
final class Refused {
    private Refused() {
    }

    static void changesNothing(String call, Class<?> due, Supplier<TreeCodes> maker, Consumer<TreeCodes> made) {
        TreeCodes x = maker.get();
        Check.raises(call, due, () -> made.accept(x));
        TreeCodes twin = maker.get();
        Check.same("all that can be seen behind " + call, Sight.now(x), Sight.now(twin));
        Check.same("the past behind " + call, Sight.past(x), Sight.past(twin));
    }
}
