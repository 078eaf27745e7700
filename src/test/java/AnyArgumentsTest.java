import java.lang.reflect.InvocationTargetException;
import java.lang.reflect.Method;
import java.util.ArrayList;
import java.util.Comparator;
import java.util.List;
import java.util.Random;

/** No call throws, whatever its arguments, in any state: all calls with numbers inside, at and far outside all bounds. */
public final class AnyArgumentsTest {
    private static final int RUNS = 600;
    private static final int CALLS = 512;
    private static final int[] ODD = {Integer.MIN_VALUE, Integer.MIN_VALUE + 1, -1000000, -401, -100, -17, -2, -1, 99,
        100, 101, 110, 120, 400, 999, 1000, 9999, 10000, 99999, 100000, 0x7fff, 0xffff, 0x10000, 1 << 30,
        Integer.MAX_VALUE - 19, Integer.MAX_VALUE - 1, Integer.MAX_VALUE};
    private static final String[] WORDS = {"cost ", "mend ", "tear ", "dirt ", "change ", "when ", "or ", "and ", "not ",
        "by ", "next ", "scene ", "wear ", "dress ", "coat ", "0 ", "1 ", "9999 ", "12345 ", "; ", "+", "-", "*", "/",
        "(", ")", "<", "=", ">", "not not not ", "((((", "cost 1 when ", "cost by*9999*9999;", "scene 9 wear 0 coat;",
        "\u0000", "\u00ff", "@", "[", "`", "{", ":", "\n", "\t"};

    private final Random random;
    private final CostumeStock stock;
    private final List<Method> calls = new ArrayList<>();

    private AnyArgumentsTest(int seed) {
        random = new Random(seed);
        stock = seed % 4 == 0 ? new CostumeStock() : seed % 4 == 1 ? Houses.full() : Houses.busy();
        for (Method method : CostumeStock.class.getMethods()) {
            if (method.getDeclaringClass() == CostumeStock.class) {
                calls.add(method);
            }
        }
        calls.sort(Comparator.comparing(Method::getName));
    }

    public static void main(String[] args) throws Exception {
        for (int seed = 0; seed < RUNS; seed++) {
            AnyArgumentsTest test = new AnyArgumentsTest(seed);
            Check.due("calls", test.calls.size(), 41);
            Check.within("run " + seed);
            for (int i = 0; i < CALLS; i++) {
                test.call();
            }
        }
        Check.finish();
    }

    private void call() throws Exception {
        if (random.nextInt(12) == 0) {
            feedAnything();
        }
        Method method = calls.get(random.nextInt(calls.size()));
        Object[] values = new Object[method.getParameterCount()];
        StringBuilder row = new StringBuilder(method.getName());
        for (int i = 0; i < values.length; i++) {
            values[i] = method.getParameterTypes()[i] == boolean.class ? (Object) random.nextBoolean() : number();
            row.append(' ').append(values[i]);
        }
        try {
            method.invoke(stock, values);
            Check.due(row.toString(), true, true);
        } catch (InvocationTargetException e) {
            Check.due(row + " threw " + e.getCause(), false, true);
        }
    }

    private int number() {
        int way = random.nextInt(20);
        return way == 0 ? random.nextInt() : way < 4 ? ODD[random.nextInt(ODD.length)]
                : way < 10 ? random.nextInt(70) : random.nextInt(7);
    }

    private void feedAnything() {
        StringBuilder text = new StringBuilder();
        int words = random.nextInt(120);
        for (int i = 0; i < words && text.length() < 380; i++) {
            text.append(WORDS[random.nextInt(WORDS.length)]);
        }
        Check.feed(stock, text.toString());
        stock.text(random.nextInt(3));
    }
}
