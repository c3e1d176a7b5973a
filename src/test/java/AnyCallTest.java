import java.lang.reflect.InvocationTargetException;
import java.lang.reflect.Method;
import java.lang.reflect.Modifier;
import java.util.Arrays;
import java.util.Comparator;
import java.util.NoSuchElementException;
import java.util.Random;

/** Any call with any arguments in any state: it ends, and throws nothing but what man() and coat() throw for no such ones. */
public final class AnyCallTest {
    private static final int[] NUMBERS = {Integer.MIN_VALUE, -1000, -256, -2, -1, 0, 1, 2, 3, 4, 5, 6, 7, 8, 9, 10, 20, 29, 30, 31, 59, 60, 61, 255, 256,
        399, 400, 401, 900, 940, 941, 999, 1000, 1 << 30, Integer.MAX_VALUE};
    private static final String[] TEXTS = {"", Kit.COURT, Kit.FULL, "bare or not held", "day 60;", "cape lies bench;day 5;", "seat s 9;", "of ann",
        "((((((((bare))))))))", "\t\t\t", "\0\1\2", "\5\5\t\t\0\0\1\1"};

    private final Random dice;
    private final HeldCoats x = new HeldCoats();

    private AnyCallTest(int seed) {
        dice = new Random(seed);
    }

    public static void main(String[] args) {
        Method[] face = Arrays.stream(HeldCoats.class.getDeclaredMethods()).filter(m -> Modifier.isPublic(m.getModifiers())).toArray(Method[]::new);
        Arrays.sort(face, Comparator.comparing(Method::getName));
        for (int seed = 0; seed < 1500; seed++) {
            new AnyCallTest(seed).run(face);
        }
        Kit.finish("AnyCallTest");
    }

    private void run(Method[] face) {
        if (dice.nextInt(8) > 0) {
            Kit.capital(x, dice.nextBoolean() ? Kit.COURT : Kit.FULL);
        }
        for (int k = 0; k < 300; k++) {
            if (dice.nextInt(12) == 0) {
                Kit.write(x, TEXTS[dice.nextInt(TEXTS.length)]);
            } else {
                call(face[dice.nextInt(face.length)]);
            }
        }
    }

    private int number() {
        return dice.nextInt(3) > 0 ? dice.nextInt(9) : dice.nextInt(9) == 0 ? dice.nextInt() : NUMBERS[dice.nextInt(NUMBERS.length)];
    }

    private void call(Method method) {
        Object[] numbers = new Object[method.getParameterCount()];
        for (int k = 0; k < numbers.length; k++) {
            numbers[k] = number();
        }
        String what = method.getName() + Arrays.toString(numbers);
        try {
            method.invoke(x, numbers);
            Kit.due(what + " answers", noSuchOne(method, numbers), false);
        } catch (InvocationTargetException e) {
            Kit.due(what + " throws " + e.getCause(), e.getCause() instanceof NoSuchElementException && noSuchOne(method, numbers), true);
            Kit.due(what + " throws by a statement of its own", e.getCause().getStackTrace()[0].getClassName().equals("HeldCoats"), true);
        } catch (IllegalAccessException e) {
            Kit.due(what + " can be called", false, true);
        }
    }

    private boolean noSuchOne(Method method, Object[] numbers) {
        if (method.getName().equals("man")) {
            return outside((Integer) numbers[0], x.count(1)) || outside((Integer) numbers[1], 8);
        }
        return method.getName().equals("coat") && (outside((Integer) numbers[0], x.count(2)) || outside((Integer) numbers[1], 5));
    }

    private static boolean outside(int number, int bound) {
        return number < 0 || number >= bound;
    }
}
