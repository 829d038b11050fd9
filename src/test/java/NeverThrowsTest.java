import java.lang.reflect.InvocationTargetException;
import java.lang.reflect.Method;
import java.lang.reflect.Modifier;
import java.util.ArrayList;
import java.util.Comparator;
import java.util.List;
import java.util.Random;

/** No call throws, whatever its arguments, in whatever state: calls drawn by fixed seeds, with edges and wild numbers. */
public final class NeverThrowsTest {
    private static final Check CHECK = new Check("NeverThrowsTest");
    private static final String[] TEXTS = {
        "m01;-;s00-", "m047,037,047a;04,27,-,0369,59;s0b0,h0b1,t0b4,d560,f0b-",
        "m01234,06789,0789a,089ab;0123456789ab,b,0,-,5;s0b0,h1a1,t292,d383,f474", "m0b;b;f0b0", "m01;0,;", "x",
    };
    private static final int[] EDGES = {
        Integer.MIN_VALUE, Integer.MIN_VALUE + 1, -4096, -101, -2, -1, 0, 1, 2, 3, 4, 5, 6, 7, 10, 11, 12, 13, 23, 24, 25, 31,
        32, 59, 60, 61, 130, 255, 256, 4095, 4096, 999999, 1000000, Integer.MAX_VALUE - 1, Integer.MAX_VALUE,
    };

    public static void main(String[] args) throws IllegalAccessException {
        List<Method> calls = new ArrayList<>();
        for (Method method : MissingNote.class.getDeclaredMethods()) {
            if (Modifier.isPublic(method.getModifiers())) {
                calls.add(method);
            }
        }
        calls.sort(Comparator.comparing(Method::getName));
        for (int seed = 0; seed < 1500; seed++) {
            run(new Random(seed), calls);
        }
        CHECK.end();
    }

    private static void run(Random random, List<Method> calls) throws IllegalAccessException {
        MissingNote x = new MissingNote();
        if (random.nextInt(8) != 0) {
            Check.read(x, TEXTS[random.nextInt(TEXTS.length)]);
        }
        for (int k = 0; k < 380; k++) {
            Method call = calls.get(random.nextInt(calls.size()));
            Object[] given = new Object[call.getParameterCount()];
            boolean wild = random.nextInt(3) == 0;
            for (int j = 0; j < given.length; j++) {
                int number = wild ? EDGES[random.nextInt(EDGES.length)] : random.nextInt(6) - 1;
                given[j] = call.getParameterTypes()[j] == long.class ? (Object) random.nextLong() : (Object) number;
            }
            String thrown = "";
            try {
                call.invoke(x, given);
            } catch (InvocationTargetException e) {
                thrown = String.valueOf(e.getCause());
            }
            CHECK.holds(call + " threw " + thrown, thrown.isEmpty());
        }
    }
}
