import java.lang.reflect.Method;
import java.lang.reflect.Modifier;
import java.util.Arrays;
import java.util.Comparator;
import java.util.Random;

/** Any call with any numbers in any state, far beyond 512 calls: nothing is ever thrown. */
public final class NeverThrowsTest {
    private static final int[] NUMBERS = {
        Integer.MIN_VALUE, Integer.MIN_VALUE + 1, -1000000, -257, -100, -13, -9, -1, 0, 1, 2, 3, 4, 5, 6, 7, 8,
        9, 10, 11, 12, 16, 17, 30, 48, 53, 57, 59, 60, 61, 95, 96, 98, 99, 100, 110, 118, 120, 255, 256, 511,
        998, 999, 1000, 9999, 65536, 1000000000, Integer.MAX_VALUE - 1, Integer.MAX_VALUE,
    };

    private NeverThrowsTest() {
    }

    public static void main(String[] args) throws ReflectiveOperationException {
        Method[] methods = Arrays.stream(Percolated.class.getDeclaredMethods())
            .filter(m -> Modifier.isPublic(m.getModifiers()))
            .sorted(Comparator.comparing(Method::getName))
            .toArray(Method[]::new);
        Due due = new Due();
        due.due("methods of the face", methods.length, 39);
        Random random = new Random(7);
        for (int run = 0; run < 40; run++) {
            live(methods, random, run % 4 == 0 ? 5000 : 700);
        }
        Percolated x = new Percolated();
        for (int i = 0; i < 3000; i++) {
            due.due("REFUSALS counted", x.count(16), i);
            x.house(0, 10);
        }
        due.end("NeverThrowsTest");
    }

    private static void live(Method[] methods, Random random, int calls) throws ReflectiveOperationException {
        Percolated x = new Percolated();
        for (int i = 0; i < calls; i++) {
            Method method = methods[random.nextInt(methods.length)];
            Object[] numbers = new Object[method.getParameterCount()];
            for (int k = 0; k < numbers.length; k++) {
                numbers[k] = random.nextInt(3) > 0 ? random.nextInt(12) : NUMBERS[random.nextInt(NUMBERS.length)];
            }
            method.invoke(x, numbers);
        }
    }
}
