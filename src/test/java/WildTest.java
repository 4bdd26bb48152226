import java.lang.reflect.Method;
import java.lang.reflect.Modifier;
import java.util.ArrayList;
import java.util.Comparator;
import java.util.List;
import java.util.Random;

/** Any arguments in any state, and more calls than are promised: nothing is ever thrown. */
public final class WildTest {
    private static final long[] EDGES = {0, 1, -1, 2, 5, 6, 9, 10, 15, 16, 40, 41, 99, 100, 399, 400, 999, 99999,
        100000, Integer.MAX_VALUE, Integer.MIN_VALUE, Integer.MAX_VALUE - 1L, Long.MAX_VALUE, Long.MIN_VALUE, 1L << 32};

    public static void main(String[] args) {
        List<Method> face = new ArrayList<>();
        for (Method m : MindPost.class.getDeclaredMethods()) {
            if (Modifier.isPublic(m.getModifiers())) {
                face.add(m);
            }
        }
        face.sort(Comparator.comparing(Method::getName));
        for (int seed = 0; seed < 60; seed++) {
            run(new Random(seed), face);
        }
        System.out.println("nothing was thrown");
    }

    private static void run(Random random, List<Method> face) {
        MindPost post = new MindPost();
        for (int i = 0; i < 1500; i++) {
            if (i % 300 == 100) {
                Calls.tell(post, Texts.good(random));
            }
            Method m = face.get(random.nextInt(face.size()));
            long[] a = new long[m.getParameterCount()];
            for (int k = 0; k < a.length; k++) {
                int sort = random.nextInt(10);
                a[k] = sort < 7 ? random.nextInt(7) : sort < 9 ? EDGES[random.nextInt(EDGES.length)] : random.nextInt();
            }
            Calls.call(post, m.getName(), a);
        }
    }
}
