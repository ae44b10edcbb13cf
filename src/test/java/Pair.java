import java.lang.reflect.InvocationTargetException;
import java.lang.reflect.Method;
import java.util.List;

/** An object of DroverTracks and the model, on which the same calls are made; their answers must be alike. */
final class Pair {
    private final DroverTracks program = new DroverTracks();
    private final Model model = new Model();
    private final StringBuilder made = new StringBuilder();
    private boolean isAlike = true;

    boolean isAlike() {
        return isAlike;
    }

    int farms() {
        return model.account(0);
    }

    /** Answers whether the call returned, by the model. */
    boolean call(String name, Object... numbers) throws ReflectiveOperationException {
        String due = answer(model, name, numbers);
        String got = answer(program, name, numbers);
        made.append(' ').append(name).append(List.of(numbers)).append('=').append(got);
        if (!due.equals(got)) {
            made.append(", due is ").append(due);
            isAlike = false;
        }
        return !due.endsWith("Exception");
    }

    /** Asks for all that can be seen but the farms' derived numbers and the line's characters. */
    void askAll() throws ReflectiveOperationException {
        for (int what = 0; what <= 9; what++) {
            call("account", what);
        }
        for (int farm = 0; farm < farms(); farm++) {
            for (int what = 0; what <= 2; what++) {
                call("farmOf", farm, what);
            }
        }
        for (int number = 0; number <= 2; number++) {
            call("drover", number);
            call("reason", number);
        }
        call("faultPosition");
        call("trees");
        call("character", 0);
    }

    /** One check for all calls that were made so far. */
    void check(String what) {
        Check.due(what + ":" + made, true, isAlike);
    }

    private static String answer(Object owner, String name, Object[] numbers) throws ReflectiveOperationException {
        Class<?>[] types = new Class<?>[numbers.length];
        for (int i = 0; i < types.length; i++) {
            types[i] = numbers[i] instanceof Character ? char.class : int.class;
        }
        Method method = owner.getClass().getMethod(name, types);
        try {
            return method.invoke(owner, numbers).toString();
        } catch (InvocationTargetException e) {
            return e.getCause().getClass().getSimpleName();
        }
    }
}
