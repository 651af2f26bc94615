import java.lang.reflect.InvocationTargetException;
import java.lang.reflect.Method;
import java.lang.reflect.Modifier;
import java.util.NoSuchElementException;

/** Whatever a call is given, in whatever state: it answers, and only named throws, and only what it may. */
final class WildTest {
    private static final Check check = new Check();
    private static final int[] WILD = {Integer.MIN_VALUE, Integer.MAX_VALUE, -2, -1, 0, 1, 2, 5, 9, 10, 16, 99, 100, 900, 1 << 30};
    private static final String FULL = "course a 1,2,1,2,1,2,1,2,1,2;runner b a 0 9999:1 0" + Check.repeat(",1 9,2 9", 7) + ",1 9"
        + ";course c 5;gap 0;slack 0;runner d c 0 1;runner e c 9998 9999:5 9999";

    public static void main(String[] args) throws Exception {
        for (Method method : ForestLegs.class.getDeclaredMethods()) {
            if (Modifier.isPublic(method.getModifiers())) {
                wild(method, new ForestLegs());
                wild(method, Check.told("course a 1"));
                wild(method, Forest.fresh());
                wild(method, Check.told(FULL));
            }
        }
        wildTexts();
        check.end();
    }

    private static void wild(Method method, ForestLegs x) throws Exception {
        int places = method.getParameterCount();
        Object[] values = new Object[places];
        int rounds = 1;
        for (int i = 0; i < Math.min(3, places); i++) {
            rounds *= WILD.length;
        }
        for (int round = 0; round < rounds; round++) {
            int rest = round;
            for (int i = 0; i < places; i++) {
                int value = WILD[rest % WILD.length];
                rest /= WILD.length;
                values[i] = method.getParameterTypes()[i] == boolean.class ? (Object) (value > 0) : (Object) value;
            }
            try {
                method.invoke(x, values);
            } catch (InvocationTargetException e) {
                boolean may = method.getName().equals("named") && e.getCause() instanceof NoSuchElementException;
                check.due(method.getName() + java.util.Arrays.toString(values) + " threw " + e.getCause(), may ? 1 : 0, 1);
            }
        }
        check.due("still there behind " + method.getName(), x.size() >= 0 && x.trouble() >= 0 ? 1 : 0, 1);
    }

    private static void wildTexts() {
        long seed = 7;
        for (int run = 0; run < 3000; run++) {
            byte[] bytes = new byte[20 * (1 + run % 45)];
            for (int i = 0; i < bytes.length; i++) {
                seed = seed * 6364136223846793005L + 1442695040888963407L;
                int drawn = (int) (seed >>> 40);
                bytes[i] = (byte) (run % 3 == 0 ? drawn : "course runner gap slack ;,: 0123456789 a".charAt(drawn % 40));
            }
            ForestLegs x = new ForestLegs();
            Check.feed(x, bytes);
            check.due("wild text " + run, x.text(bytes.length), -1);
            check.due("trouble() of wild text " + run, x.trouble(), 4);
            check.due("where() of wild text " + run, x.where() >= 0 && x.where() <= bytes.length ? 1 : 0, 1);
        }
    }
}
