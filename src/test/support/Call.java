import java.lang.reflect.InvocationTargetException;
import java.lang.reflect.Method;
import java.util.Arrays;
import java.util.HashMap;
import java.util.Map;

/**
 * One call of the face as a text, "crank 3 10", so that the same call can be made on several
 * objects, of the class or of the plain model. MIN and MAX are the smallest and the greatest int.
 */
final class Call {
    private static final Map<String, Method> METHODS = new HashMap<>();

    final String text;
    private final String name;
    private final Object[] numbers;

    Call(String text) {
        this.text = text;
        String[] words = text.split(" ");
        name = words[0];
        numbers = new Object[words.length - 1];
        for (int i = 1; i < words.length; i++) {
            numbers[i - 1] = numberOf(words[i]);
        }
    }

    private static int numberOf(String word) {
        return word.equals("MIN") ? Integer.MIN_VALUE
                : word.equals("MAX") ? Integer.MAX_VALUE
                : Integer.parseInt(word);
    }

    int on(Object target) {
        try {
            return (Integer) methodOf(target.getClass()).invoke(target, numbers);
        } catch (InvocationTargetException e) {
            throw new IllegalStateException(text + " threw " + e.getCause(), e);
        } catch (ReflectiveOperationException e) {
            throw new IllegalArgumentException("no such call: " + text, e);
        }
    }

    private Method methodOf(Class<?> type) throws NoSuchMethodException {
        String key = type.getName() + " " + name;
        Method known = METHODS.get(key);
        if (known == null) {
            Class<?>[] ints = new Class<?>[numbers.length];
            Arrays.fill(ints, int.class);
            known = type.getDeclaredMethod(name, ints);
            METHODS.put(key, known);
        }
        return known;
    }
}
