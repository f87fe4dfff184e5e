import java.lang.reflect.Method;
import java.util.ArrayList;
import java.util.List;

/** No call ever throws, whatever its arguments are, with a round, without one, and with a full page; refusals change nothing. */
public final class HardArgumentsTest {
    private static final Check check = new Check();
    private static final int[] HARD = {
        Integer.MIN_VALUE, Integer.MIN_VALUE + 1, -65536, -101, -1, 0, 1, 5, 6, 9, 10, 15, 16, 31, 32, 60, 61, 126, 127, 150,
        151, 255, 256, 65535, 65536, Integer.MAX_VALUE - 1, Integer.MAX_VALUE,
    };

    public static void main(String[] args) throws ReflectiveOperationException {
        for (Method call : MilkRound.class.getDeclaredMethods()) {
            if (java.lang.reflect.Modifier.isPublic(call.getModifiers())) {
                everyArgument(call, call.getParameterTypes(), new ArrayList<>());
            }
        }
        check.end();
    }

    private static void everyArgument(Method call, Class<?>[] types, List<Object> chosen) throws ReflectiveOperationException {
        if (chosen.size() == types.length) {
            inEveryState(call, chosen.toArray());
            return;
        }
        if (types[chosen.size()] == boolean.class) {
            for (boolean flag : new boolean[] {false, true}) {
                withOneMore(call, types, chosen, flag);
            }
            return;
        }
        for (int hard : HARD) {
            withOneMore(call, types, chosen, hard);
        }
    }

    private static void withOneMore(Method call, Class<?>[] types, List<Object> chosen, Object next)
            throws ReflectiveOperationException {
        List<Object> more = new ArrayList<>(chosen);
        more.add(next);
        everyArgument(call, types, more);
    }

    private static void inEveryState(Method call, Object[] arguments) throws ReflectiveOperationException {
        once(new MilkRound(), call, arguments);
        once(Check.round("b9,w0;1"), call, arguments);
        MilkRound full = Check.round("w9,w9,w9,w9,w9,w9;9");
        full.image();
        for (int i = 0; i < 6; i++) {
            full.known(i, 21 * (i + 1));
        }
        Check.write(full, "~~~~~~~~~~~~~~~~~~~~~");
        once(full, call, arguments);
    }

    private static void once(MilkRound x, Method call, Object[] arguments) throws ReflectiveOperationException {
        long before = x.digest();
        long answer = ((Number) call.invoke(x, arguments)).longValue();
        long behind = x.digest();
        boolean refused = !call.getName().equals("digest") && answer < MilkRound.NONE;
        check.due(call.getName() + java.util.Arrays.toString(arguments) + " left all as it was", !refused || before == behind ? 1 : 0, 1);
    }
}
