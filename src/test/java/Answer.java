import java.lang.reflect.InvocationTargetException;
import java.lang.reflect.Method;

/** Calls a method whose name and arguments are only known while the test runs. */
final class Answer {
    private Answer() {
    }

    /** Returns the answer in words, or the name of the exception that was thrown. */
    static String of(Object object, Method method, Object[] arguments) {
        try {
            return String.valueOf(method.invoke(object, arguments));
        } catch (InvocationTargetException e) {
            return e.getCause().getClass().getName();
        } catch (IllegalAccessException e) {
            return e.toString();
        }
    }
}
