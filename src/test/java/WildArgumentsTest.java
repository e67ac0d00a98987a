import java.lang.reflect.Method;
import java.lang.reflect.Modifier;
import java.util.ArrayList;
import java.util.Comparator;
import java.util.List;
import java.util.Random;

/** Each call with numbers at and beyond all edges, in lands of all kinds: it answers as PlainLand does, and never throws. */
public final class WildArgumentsTest {
    private static final int RUNS = 600;
    private static final int CALLS = 500;
    private static final int[] EDGES = {Integer.MIN_VALUE, Integer.MIN_VALUE + 1, -1000000, -2, -1, 0, 1, 2, 3, 4, 5, 7, 8,
        9, 10, 11, 12, 13, 14, 15, 28, 29, 30, 31, 59, 60, 61, 99, 100, 101, 119, 120, 200, 201, 280, 300, 301, 399, 400,
        401, 1000, 1001, 10000, 10001, 500000, 500001, 1000000, 10000000, 10000001, Integer.MAX_VALUE - 1,
        Integer.MAX_VALUE};
    private static final String[] LAWS = {"keep 60", "keep 100;sell 7", "keep 30;free 1;still 2", "keep 50;least 3"};

    private final Random dice;
    private final SurplusLand real = new SurplusLand();
    private final PlainLand plain = new PlainLand();

    private WildArgumentsTest(long seed) {
        dice = new Random(seed);
    }

    public static void main(String[] args) throws ReflectiveOperationException {
        Check check = new Check();
        List<Method> face = new ArrayList<>();
        for (Method m : SurplusLand.class.getDeclaredMethods()) {
            if (Modifier.isPublic(m.getModifiers())) {
                face.add(m);
            }
        }
        face.sort(Comparator.comparing(Method::getName));
        for (long seed = 0; seed < RUNS; seed++) {
            new WildArgumentsTest(seed).run(face, check, "seed " + seed);
        }
        check.finish();
    }

    private void run(List<Method> face, Check check, String at) throws ReflectiveOperationException {
        begin();
        for (int n = 0; n < CALLS - 50; n++) {
            Method m = face.get(dice.nextInt(face.size()));
            Object[] args = new Object[m.getParameterCount()];
            StringBuilder call = new StringBuilder(at).append(" call ").append(n).append(' ').append(m.getName());
            for (int i = 0; i < args.length; i++) {
                args[i] = m.getParameterTypes()[i] == long.class ? (Object) someLong() : (Object) someInt();
                call.append(' ').append(args[i]);
            }
            Method same = PlainLand.class.getDeclaredMethod(m.getName(), m.getParameterTypes());
            check.due(call.toString(), number(m.invoke(real, args)), number(same.invoke(plain, args)));
        }
    }

    private void begin() {
        for (int n = dice.nextInt(5); n > 0; n--) {
            real.grower(n, 10 * n);
            plain.grower(n, 10 * n);
        }
        String text = LAWS[dice.nextInt(LAWS.length)];
        Check.law(real, text, 0, 29);
        plain.tape = text;
        plain.law(0, 29);
        for (int n = dice.nextInt(6); n > 0; n--) {
            real.go(n);
            plain.go(n);
        }
    }

    private static long number(Object answer) {
        return answer instanceof Boolean b ? (b ? 1 : 0) : ((Number) answer).longValue();
    }

    private int someInt() {
        return dice.nextInt(3) == 0 ? EDGES[dice.nextInt(EDGES.length)] : dice.nextInt(6);
    }

    private long someLong() {
        return dice.nextInt(4) == 0 ? dice.nextLong() : someInt();
    }
}
