import java.lang.reflect.Method;

/** Makes calls that are written as texts, such as "gate(0, MIN, 2)", so that lists of them read well. */
final class Calls {
    private Calls() {
    }

    static int ask(ClothMaker maker, String call) {
        int open = call.indexOf('(');
        String name = call.substring(0, open);
        String inside = call.substring(open + 1, call.length() - 1).trim();
        String[] texts = inside.isEmpty() ? new String[0] : inside.split(",");
        try {
            Method method = named(name);
            Class<?>[] types = method.getParameterTypes();
            if (types.length != texts.length) {
                throw new IllegalArgumentException(call + ": not so many numbers");
            }
            Object[] values = new Object[texts.length];
            for (int k = 0; k < texts.length; k++) {
                values[k] = valueOf(texts[k].trim(), types[k]);
            }
            return (Integer) method.invoke(maker, values);
        } catch (ReflectiveOperationException e) {
            throw new IllegalStateException(call + " ended with " + e.getCause(), e);
        }
    }

    private static Method named(String name) {
        for (Method method : ClothMaker.class.getDeclaredMethods()) {
            if (method.getName().equals(name)) {
                return method;
            }
        }
        throw new IllegalArgumentException("no call " + name);
    }

    private static Object valueOf(String text, Class<?> type) {
        if (type == boolean.class) {
            return Boolean.valueOf(text);
        }
        if (type == long.class) {
            return Long.valueOf(text);
        }
        return text.equals("MIN") ? Integer.valueOf(Integer.MIN_VALUE)
                : text.equals("MAX") ? Integer.valueOf(Integer.MAX_VALUE) : Integer.valueOf(text);
    }
}
