import java.lang.reflect.Method;
import java.lang.reflect.Modifier;
import java.util.ArrayList;
import java.util.Arrays;
import java.util.Comparator;
import java.util.List;
import java.util.Random;

/** Every call of the face with small, near and far numbers, right and wrong: none throws, and all answer as the model. */
public final class ExtremesTest {
    private static final int RUNS = 400;
    private static final int CALLS = 500;
    private static final int[] FAR = {Integer.MIN_VALUE, Integer.MIN_VALUE + 1, -65536, -100, -3, -2, 30, 31, 32, 33, 40, 41,
        59, 60, 61, 99, 127, 128, 255, 65536, Integer.MAX_VALUE - 1, Integer.MAX_VALUE};

    public static void main(String[] args) throws ReflectiveOperationException {
        List<Method> face = new ArrayList<>();
        for (Method method : OnlyStrangers.class.getDeclaredMethods()) {
            if (Modifier.isPublic(method.getModifiers())) {
                face.add(method);
            }
        }
        face.sort(Comparator.comparing(Method::getName));
        int wrong = 0;
        for (int run = 0; run < RUNS && wrong < 5; run++) {
            wrong += run(face, new Random(run));
        }
        System.out.println("ExtremesTest: " + RUNS + " runs, " + wrong + " not as the model");
        if (wrong != 0) {
            System.exit(1);
        }
    }

    private static int run(List<Method> face, Random choice) throws ReflectiveOperationException {
        OnlyStrangers x = new OnlyStrangers();
        Model model = new Model();
        for (int k = 0; k < CALLS; k++) {
            Method method = face.get(choice.nextInt(face.size()));
            Object[] arguments = new Object[method.getParameterCount()];
            for (int a = 0; a < arguments.length; a++) {
                arguments[a] = argument(method.getParameterTypes()[a], choice);
            }
            Method same = Model.class.getDeclaredMethod(method.getName(), method.getParameterTypes());
            long want = ((Number) same.invoke(model, arguments)).longValue();
            long got = ((Number) method.invoke(x, arguments)).longValue();
            if (got != want) {
                System.out.println(method.getName() + Arrays.toString(arguments) + " answered " + got + ", due is " + want);
                return 1;
            }
        }
        return 0;
    }

    private static Object argument(Class<?> type, Random choice) {
        if (type == boolean.class) {
            return choice.nextBoolean();
        }
        int number = choice.nextInt(5) == 0 ? FAR[choice.nextInt(FAR.length)] : choice.nextInt(7) - 1;
        if (type == long.class) {
            return choice.nextInt(4) == 0 ? choice.nextLong() : Long.valueOf(number);
        }
        return number;
    }
}
