import java.lang.reflect.InvocationTargetException;
import java.lang.reflect.Method;
import java.lang.reflect.Modifier;
import java.util.NoSuchElementException;

/** Every call with every mixture of odd arguments, without a bus and with a busy one: none throws but silent(). */
final class ExtremesTest {
    private static final long[] ODD = {Integer.MIN_VALUE, -2, -1, 0, 1, 2, 7, 8, 15, 16, 600, 601, 900,
        Integer.MAX_VALUE};
    private static final long[] FEW = {Integer.MIN_VALUE, -1, 0, 1, 12, Integer.MAX_VALUE};

    private static final Check CHECK = new Check("ExtremesTest");

    public static void main(String[] args) throws IllegalAccessException {
        tryAll(new GapLinks());
        GapLinks x = Check.bus(Check.THREE);
        tryAll(x);
        busy(x);
        tryAll(x);
        GapLinks least = Check.bus("bus switches 1 room 1 jitter 0 window 1 skew 1;end a at 0;end b at 0;"
                + "link k from a gap 8 length 1 to b");
        tryAll(least);
        busy(least);
        tryAll(least);
        CHECK.finish();
    }

    private static void busy(GapLinks x) {
        for (int l = 0; l < 8; l++) {
            x.send(l, 16);
            x.babble(l, 20);
            x.ticks(9);
        }
    }

    private static void tryAll(GapLinks x) throws IllegalAccessException {
        for (Method method : GapLinks.class.getDeclaredMethods()) {
            if (Modifier.isPublic(method.getModifiers())) {
                Object[] arguments = new Object[method.getParameterCount()];
                tryOne(x, method, arguments, 0);
            }
        }
    }

    private static void tryOne(GapLinks x, Method method, Object[] arguments, int k) throws IllegalAccessException {
        if (k == arguments.length) {
            invoke(x, method, arguments);
            return;
        }
        Class<?> type = method.getParameterTypes()[k];
        if (type == boolean.class) {
            arguments[k] = true;
            tryOne(x, method, arguments, k + 1);
            arguments[k] = false;
            tryOne(x, method, arguments, k + 1);
            return;
        }
        for (long odd : arguments.length > 3 ? FEW : ODD) {
            arguments[k] = type == long.class ? (Object) odd : (Object) (int) odd;
            tryOne(x, method, arguments, k + 1);
        }
    }

    private static void invoke(GapLinks x, Method method, Object[] arguments) throws IllegalAccessException {
        boolean fine = true;
        try {
            method.invoke(x, arguments);
        } catch (InvocationTargetException e) {
            fine = method.getName().equals("silent") && e.getCause() instanceof NoSuchElementException;
        }
        CHECK.due(method.getName() + " throws nothing that the document does not name", true, fine);
    }
}
