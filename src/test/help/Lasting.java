import java.util.ArrayList;
import java.util.List;
import java.util.function.ToIntFunction;

/**
 * A ShortForms that can be asked without end: one object answers for 512 calls alone, so before
 * these are spent a new one is made, on which all that changed the one before is done again.
 */
final class Lasting {
    private static final int MOST_CALLS = 512;

    private final List<ToIntFunction<ShortForms>> changes = new ArrayList<>();
    private ShortForms object = new ShortForms();
    private int changing = 0;
    private int made = 0;

    /** The object, for one call that changes nothing. */
    ShortForms ask() {
        spend(1);
        return object;
    }

    /** Does what changes the object, of so many calls. */
    int change(int calls, ToIntFunction<ShortForms> what) {
        spend(calls);
        changing += calls;
        changes.add(what);
        return what.applyAsInt(object);
    }

    private void spend(int calls) {
        if (made + calls > MOST_CALLS) {
            object = new ShortForms();
            for (ToIntFunction<ShortForms> change : changes) {
                change.applyAsInt(object);
            }
            made = changing;
        }
        made += calls;
        if (made > MOST_CALLS) {
            throw new IllegalStateException("too much is changed for one object's calls");
        }
    }
}
