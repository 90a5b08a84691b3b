import java.lang.reflect.InvocationTargetException;
import java.lang.reflect.Method;
import java.lang.reflect.Modifier;
import java.util.Arrays;
import java.util.Comparator;
import java.util.Random;

/** Rule 7 of LANGUAGE.md: no call ever throws, whatever the arguments, in any state. */
public final class AnyCallTest {
    private static final int[] EDGES = {Integer.MIN_VALUE, Integer.MIN_VALUE + 1, -256, -100, -11, -10, -3, -2, -1, 0, 1,
        2, 3, 4, 5, 6, 7, 8, 9, 10, 11, 16, 17, 47, 48, 49, 60, 61, 97, 98, 99, 100, 101, 102, 103, 104, 105, 106, 107,
        255, 256, 1022, 1023, 1024, Integer.MAX_VALUE - 1, Integer.MAX_VALUE};

    public static void main(String[] args) throws IllegalAccessException {
        Random random = new Random(11);
        Method[] all = ShoesHall.class.getDeclaredMethods();
        // The machine tells them in any order; by names a run is the same each time.
        Arrays.sort(all, Comparator.comparing(Method::getName));
        for (int run = 0; run < 300; run++) {
            ShoesHall x = new ShoesHall();
            for (int call = 0; call < 512; call++) {
                Method m = all[random.nextInt(all.length)];
                if (Modifier.isPublic(m.getModifiers())) {
                    ask(x, m, random, run);
                }
            }
        }
        Check.end("AnyCallTest");
    }

    private static void ask(ShoesHall x, Method m, Random random, int run) throws IllegalAccessException {
        Object[] with = new Object[m.getParameterCount()];
        for (int i = 0; i < with.length; i++) {
            // Small numbers more often, so that calls also come through.
            with[i] = random.nextInt(3) == 0 ? EDGES[random.nextInt(EDGES.length)] : random.nextInt(run % 2 == 0 ? 4 : 10);
            if (m.getName().equals("type") && i == 1 && random.nextInt(8) != 0) {
                with[i] = 97 + random.nextInt(10);
            }
        }
        int thrown = 0;
        try {
            m.invoke(x, with);
        } catch (InvocationTargetException e) {
            thrown = 1;
        }
        Check.due("thrown by " + m.getName() + Arrays.toString(with), thrown, 0);
    }
}
