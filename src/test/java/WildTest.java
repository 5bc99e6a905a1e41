import java.lang.reflect.InvocationTargetException;
import java.lang.reflect.Method;
import java.util.Arrays;
import java.util.Comparator;
import java.util.Random;

/** Calls of every method with any numbers, in any state: none may throw. */
public final class WildTest {
    private static final int[] EDGES = {Integer.MIN_VALUE, Integer.MIN_VALUE + 1, -1000000000, -2, -1, 0, 1, 2, 3, 5, 6,
        7, 8, 11, 12, 15, 16, 23, 24, 25, 60, 61, 100, 101, 200, 220, 2000, 2001, 16777215, 16777216, Integer.MAX_VALUE};

    public static void main(String[] args) throws IllegalAccessException {
        Method[] methods = Arrays.stream(SinkingChoir.class.getDeclaredMethods())
            .filter(m -> java.lang.reflect.Modifier.isPublic(m.getModifiers()))
            .sorted(Comparator.comparing(Method::getName)).toArray(Method[]::new);
        Random random = new Random(1);
        int thrown = 0;
        for (int run = 0; run < 300; run++) {
            SinkingChoir x = new SinkingChoir();
            int wild = random.nextInt(12);
            for (int call = 0; call < 512; call++) {
                Method m = methods[random.nextInt(methods.length)];
                Object[] given = new Object[m.getParameterCount()];
                for (int k = 0; k < given.length; k++) {
                    boolean isFlag = m.getParameterTypes()[k] == boolean.class;
                    int number = random.nextInt(12) < wild ? EDGES[random.nextInt(EDGES.length)] : random.nextInt(6);
                    number = m.getName().equals("feed") && wild > 6 ? random.nextInt() : number;
                    given[k] = isFlag ? (Object) random.nextBoolean() : (Object) number;
                }
                try {
                    m.invoke(x, given);
                } catch (InvocationTargetException e) {
                    thrown++;
                    System.out.println(m.getName() + Arrays.toString(given) + " threw " + e.getCause());
                }
            }
        }
        System.out.println(thrown == 0 ? "nothing was thrown" : thrown + " calls threw");
        if (thrown != 0 || methods.length != 32) {
            System.exit(1);
        }
    }
}
