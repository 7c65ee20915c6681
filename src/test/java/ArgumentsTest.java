import java.lang.reflect.InvocationTargetException;
import java.lang.reflect.Method;
import java.lang.reflect.Modifier;
import java.util.ArrayList;
import java.util.Comparator;
import java.util.List;

/** Every method with arguments far from and near every bound: nothing is thrown, and each answer is Model's. */
public final class ArgumentsTest {
    private static final int[] VALUES = {Integer.MIN_VALUE, Integer.MIN_VALUE + 1, -715827882, -65536, -1000, -109, -16,
        -15, -2, -1, 0, 1, 2, 3, 4, 5, 7, 8, 9, 10, 12, 19, 20, 21, 47, 48, 60, 61, 63, 64, 100, 255, 256, 1000, 65536,
        477218588, 954437176, Integer.MAX_VALUE - 1, Integer.MAX_VALUE};
    private static final int CALLS = 512;
    private static final Check check = new Check();

    public static void main(String[] args) throws ReflectiveOperationException {
        List<Method> methods = new ArrayList<>();
        for (Method method : PuppetTurns.class.getDeclaredMethods()) {
            if (Modifier.isPublic(method.getModifiers())) {
                methods.add(method);
            }
        }
        methods.sort(Comparator.comparing(Method::getName));
        for (Method method : methods) {
            oneByOne(method);
        }
        check.end();
    }

    private static void oneByOne(Method method) throws ReflectiveOperationException {
        int parameters = method.getParameterCount();
        for (int base = 0; base < 3; base++) {
            PuppetTurns stage = new PuppetTurns();
            Model model = new Model();
            prepare(stage, model);
            int calls = 40;
            for (int parameter = 0; parameter < parameters; parameter++) {
                for (int value : VALUES) {
                    if (calls++ == CALLS) {
                        return;
                    }
                    Object[] arguments = new Object[parameters];
                    for (int i = 0; i < parameters; i++) {
                        arguments[i] = i == parameter ? value : base;
                    }
                    compare(method, stage, model, arguments);
                }
            }
            if (parameters == 0) {
                compare(method, stage, model, new Object[0]);
            }
        }
    }

    private static void prepare(PuppetTurns stage, Model model) {
        for (int puppet = 0; puppet < 3; puppet++) {
            stage.come(puppet, puppet, puppet & 1, puppet, 1);
            model.come(puppet, puppet, puppet & 1, puppet, 1);
        }
        stage.leave(1);
        model.leave(1);
        stage.setLimit(1);
        model.setLimit(1);
    }

    private static void compare(Method method, PuppetTurns stage, Model model, Object[] arguments)
            throws ReflectiveOperationException {
        String call = method.getName() + java.util.Arrays.toString(arguments);
        Method due = Model.class.getDeclaredMethod(method.getName(), method.getParameterTypes());
        try {
            check.due(call, (Integer) method.invoke(stage, arguments), (Integer) due.invoke(model, arguments));
        } catch (InvocationTargetException thrown) {
            check.due(call + " threw " + thrown.getCause(), 1, 0);
        }
    }
}
