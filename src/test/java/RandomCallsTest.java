import java.lang.reflect.InvocationTargetException;
import java.lang.reflect.Method;
import java.lang.reflect.Modifier;
import java.util.ArrayList;
import java.util.Comparator;
import java.util.List;
import java.util.Random;

/** Any calls with any arguments, in any state, and spoilt texts: none throws, and twice the same gives the same. */
public final class RandomCallsTest {
    private static final int RUNS = 200;

    public static void main(String[] args) throws IllegalAccessException {
        List<Method> calls = new ArrayList<>();
        for (Method method : CenturyGates.class.getDeclaredMethods()) {
            if (Modifier.isPublic(method.getModifiers())) {
                calls.add(method);
            }
        }
        calls.sort(Comparator.comparing(Method::getName));
        for (int n = 0; n < RUNS; n++) {
            Check.due("run " + n + " again", play(calls, n), play(calls, n));
            Check.due("spoilt text " + n + " again", spoil(n), spoil(n));
        }
        Check.finish();
    }

    private static long play(List<Method> calls, int number) throws IllegalAccessException {
        Random random = new Random(number);
        CenturyGates x = new CenturyGates();
        long all = 0;
        for (int n = 0; n < 500; n++) {
            if (n % 100 == 30 || n == 0 && random.nextBoolean()) {
                x.end(0);
                Check.feed(x, new Model(random).text.replaceAll("(?s)^(.{0,1600}).*$", "$1"));
                x.district();
            }
            Method call = calls.get(random.nextInt(calls.size()));
            Object[] with = new Object[call.getParameterCount()];
            for (int k = 0; k < with.length; k++) {
                int kind = random.nextInt(10);
                with[k] = kind < 6 ? random.nextInt(7) - 1 : kind < 9 ? random.nextInt(220) - 10
                    : kind == 9 && random.nextBoolean() ? random.nextInt() : Integer.MIN_VALUE >> random.nextInt(32);
            }
            try {
                all = 31 * all + call.invoke(x, with).hashCode();
            } catch (InvocationTargetException thrown) {
                Check.due("run " + number + ", " + call + " threw " + thrown.getCause(), 1, 0);
            }
        }
        return all;
    }

    /** A good text with one byte changed, left out or added has a FAULT within it, or is good still. */
    private static long spoil(int number) {
        Random random = new Random(number);
        String good = new Model(random).text;
        long all = 0;
        CenturyGates x = new CenturyGates();
        for (int n = 0; n < 20 && good.length() < 1590; n++) {
            int at = random.nextInt(good.length());
            String signs = "abz019 ;()[]+-*/<>=,\n\t\u00ff";
            String more = random.nextInt(3) == 0 ? "" : String.valueOf(signs.charAt(random.nextInt(signs.length())));
            String text = good.substring(0, at) + more + good.substring(at + random.nextInt(2));
            Check.feed(x, text);
            int statements = x.district();
            boolean fine = x.fault(0) == 0 ? statements > 0 && x.fault(1) == -1
                : statements == -1 && x.fault(0) <= 5 && x.fault(1) >= 0 && x.fault(1) <= text.length();
            Check.due("the fault of " + text, fine, true);
            all = 31 * all + 7 * x.fault(0) + x.fault(1);
        }
        return all;
    }
}
