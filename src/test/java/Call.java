import java.lang.reflect.InvocationTargetException;
import java.lang.reflect.Method;
import java.util.ArrayList;
import java.util.Arrays;
import java.util.HashMap;
import java.util.List;
import java.util.Map;

/** A call as data, so that the same one can be made on the program and on the model, and be told in words. */
record Call(String name, int... args) {
    private static final Map<Class<?>, Map<String, Method>> METHODS = new HashMap<>();

    /** A call of a method that takes a block and then the arguments in "more". */
    static Call ofBlock(String name, int from, int to, int... more) {
        int[] args = new int[more.length + 2];
        args[0] = from;
        args[1] = to;
        System.arraycopy(more, 0, args, 2, more.length);
        return new Call(name, args);
    }

    /** Every call that takes its first argument from the first choices, its second from the second, and so on. */
    static List<Call> mixtures(String name, int[]... choices) {
        List<Call> calls = new ArrayList<>(List.of(new Call(name)));
        for (int[] choice : choices) {
            List<Call> longer = new ArrayList<>();
            for (Call call : calls) {
                for (int arg : choice) {
                    int[] args = Arrays.copyOf(call.args, call.args.length + 1);
                    args[call.args.length] = arg;
                    longer.add(new Call(name, args));
                }
            }
            calls = longer;
        }
        return calls;
    }

    int on(Object target) {
        Object[] boxed = new Object[args.length];
        for (int i = 0; i < args.length; i++) {
            boxed[i] = args[i];
        }
        try {
            return (int) methodsOf(target.getClass()).get(name).invoke(target, boxed);
        } catch (InvocationTargetException thrown) {
            throw new IllegalStateException(this + " threw " + thrown.getCause());
        } catch (IllegalAccessException hidden) {
            throw new IllegalStateException(this + " can't be called");
        }
    }

    @Override
    public String toString() {
        return name + Arrays.toString(args).replace('[', '(').replace(']', ')');
    }

    private static Map<String, Method> methodsOf(Class<?> type) {
        return METHODS.computeIfAbsent(type, Call::listMethods);
    }

    private static Map<String, Method> listMethods(Class<?> type) {
        Map<String, Method> methods = new HashMap<>();
        for (Method method : type.getDeclaredMethods()) {
            methods.put(method.getName(), method);
        }
        return methods;
    }
}
