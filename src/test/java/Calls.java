import java.lang.reflect.InvocationTargetException;
import java.lang.reflect.Method;

/** Calls a method of MindPost by its name. */
final class Calls {
    private Calls() {
    }

    static long call(MindPost post, String name, long[] a) {
        for (Method m : MindPost.class.getDeclaredMethods()) {
            if (m.getName().equals(name) && m.getParameterCount() == a.length) {
                Object[] boxed = new Object[a.length];
                for (int i = 0; i < a.length; i++) {
                    if (m.getParameterTypes()[i] == int.class) {
                        boxed[i] = (int) a[i];
                    } else {
                        boxed[i] = a[i];
                    }
                }
                try {
                    return ((Number) m.invoke(post, boxed)).longValue();
                } catch (InvocationTargetException | IllegalAccessException e) {
                    throw new IllegalStateException(name, e);
                }
            }
        }
        throw new IllegalStateException(name);
    }

    /** Feeds a text, blanks behind it, and posts it: what post() answers. */
    static int tell(MindPost post, String text) {
        StringBuilder t = new StringBuilder(text);
        while (t.length() % 20 != 0) {
            t.append(' ');
        }
        for (int i = 0; i < t.length(); i += 20) {
            post.feed(four(t, i), four(t, i + 4), four(t, i + 8), four(t, i + 12), four(t, i + 16));
        }
        return post.post(text.length());
    }

    private static int four(StringBuilder t, int i) {
        return t.charAt(i) << 24 | t.charAt(i + 1) << 16 | t.charAt(i + 2) << 8 | t.charAt(i + 3);
    }
}
