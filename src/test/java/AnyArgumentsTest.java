import java.lang.reflect.InvocationTargetException;
import java.lang.reflect.Method;
import java.lang.reflect.Modifier;
import java.util.ArrayList;
import java.util.Comparator;
import java.util.List;
import java.util.Random;

/** No call may throw or fail to end, for any arguments in any state: calls with numbers at all edges on full objects. */
public final class AnyArgumentsTest {
    private static final int[] EDGES = {
        Integer.MIN_VALUE, Integer.MIN_VALUE + 1, -100000, -501, -500, -32, -10, -2, -1, 0, 1, 2, 3, 4, 5, 6, 7, 8, 9,
        10, 11, 28, 29, 30, 31, 32, 59, 60, 61, 64, 99, 100, 239, 240, 500, 501, 999, 1000, 1 << 20, 1 << 30,
        Integer.MAX_VALUE - 1, Integer.MAX_VALUE};

    public static void main(String[] args) throws Exception {
        List<Method> methods = new ArrayList<>();
        for (Method m : FrescoWall.class.getDeclaredMethods()) {
            if (Modifier.isPublic(m.getModifiers())) {
                methods.add(m);
            }
        }
        methods.sort(Comparator.comparing(Method::getName));
        if (methods.size() != 37) {
            System.out.println("AnyArgumentsTest: the face has " + methods.size() + " methods, 37 are due");
            System.exit(1);
        }
        int calls = 0;
        for (int seed = 0; seed < 60; seed++) {
            Random random = new Random(seed);
            FrescoWall w = seed % 3 == 0 ? new FrescoWall() : crowded(random);
            for (int k = 0; k < 4000; k++) {
                Method m = methods.get(random.nextInt(methods.size()));
                calls++;
                call(w, m, random);
            }
        }
        System.out.println("AnyArgumentsTest: " + calls + " calls came back");
    }

    private static void call(FrescoWall w, Method m, Random random) throws Exception {
        Class<?>[] types = m.getParameterTypes();
        Object[] args = new Object[types.length];
        StringBuilder told = new StringBuilder(m.getName());
        for (int k = 0; k < types.length; k++) {
            int n = random.nextInt(3) == 0 ? EDGES[random.nextInt(EDGES.length)] : random.nextInt(8);
            args[k] = types[k] == long.class ? (Object) random.nextLong() : (Object) n;
            told.append(' ').append(args[k]);
        }
        try {
            m.invoke(w, args);
        } catch (InvocationTargetException e) {
            System.out.println("AnyArgumentsTest: " + told + " threw " + e.getCause());
            System.exit(1);
        }
    }

    /** Thirty bits of all sizes with up to sixty joins. */
    private static FrescoWall crowded(Random random) {
        FrescoWall w = new FrescoWall();
        w.tolerance(random.nextInt(31));
        while (w.count(0) < 30) {
            int size = random.nextInt(4) == 0 ? 20 : 1 + random.nextInt(2);
            String ring = random.nextBoolean()
                ? "-20,-20:1;0,-20:1;20,-20:1;20,0:1;20,20:1;0,20:1;-20,20:1;-20,0:1|-20,-20=1|19,19=1|0,0=1|1,1=2|2,2=3"
                : Check.box(size, size, "0123");
            Check.bit(w, ring, 5, random.nextInt(4), random.nextInt(2));
        }
        for (int k = 0; k < 3000 && w.count(8) < 60; k++) {
            int a = random.nextInt(30);
            int edge = random.nextInt(4);
            int n = w.fits(a, edge);
            if (n > 0) {
                int fit = w.fit(a, edge, random.nextInt(n));
                w.join(a, edge, fit / 10, fit % 10);
            }
        }
        for (int k = 0; k < 10; k++) {
            w.word(random.nextInt(30), random.nextInt(4), random.nextInt(1000) - 500, random.nextInt(1000) - 500);
            w.put(random.nextInt(30), random.nextInt(4), random.nextInt(1000) - 500, random.nextInt(1000) - 500);
        }
        Check.photograph(w, "0123456789012345/................/1111111111111111", 500, -500, 3);
        return w;
    }
}
