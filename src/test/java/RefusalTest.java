import java.lang.reflect.Method;
import java.lang.reflect.Modifier;
import java.util.ArrayList;
import java.util.Arrays;
import java.util.List;
import java.util.Random;
import java.util.Set;

/**
 * Two objects: one is called with all that comes by lot, wild arguments too, the other one only with what was not
 * refused and changes something. No call may throw, and both must answer alike: what is refused, or only thought,
 * changes nothing.
 */
public final class RefusalTest {
    private static final Set<String> ONLY_THOUGHT = Set.of("childTold", "told", "as", "lands", "round", "odds", "behind",
        "had", "all", "evens", "steer", "pays", "worst", "filmed", "fine", "textTold", "why", "reads", "ask", "item",
        "rest", "count");
    /** These use up what they read, whatever they answer. */
    private static final Set<String> USING_UP = Set.of("text", "check");
    private static final int[] WILD = {Integer.MIN_VALUE, Integer.MIN_VALUE + 1, -1000000005, -100, -2, -1, 0, 1, 2, 3, 4,
        5, 9, 10, 11, 19, 20, 23, 24, 25, 30, 60, 61, 96, 97, 99, 100, 101, 999, 9999, 10000, 65536, Integer.MAX_VALUE - 11,
        Integer.MAX_VALUE};

    public static void main(String[] args) throws Exception {
        List<Method> methods = new ArrayList<>();
        for (Method m : ParcelRing.class.getDeclaredMethods()) if (Modifier.isPublic(m.getModifiers())) methods.add(m);
        methods.sort((a, b) -> a.getName().compareTo(b.getName()));
        int wrong = 0;
        for (int run = 0; run < 400 && wrong < 5; run++) wrong += play(methods, new Random(run));
        System.out.println(wrong == 0 ? "what is refused changes nothing" : "something changed, or was thrown");
        if (wrong != 0) System.exit(1);
    }

    private static int play(List<Method> methods, Random lot) throws Exception {
        ParcelRing all = new ParcelRing(), few = new ParcelRing();
        int wild = 2 + lot.nextInt(12);
        for (int call = 0; call < 512; call++) {
            Method m = methods.get(lot.nextInt(methods.size()));
            if (call < 60 && lot.nextInt(2) == 0) m = method(methods, lot.nextInt(3) == 0 ? "stop" : lot.nextBoolean() ? "child" : "paper");
            Object[] p = new Object[m.getParameterCount()];
            for (int i = 0; i < p.length; i++) p[i] = lot.nextInt(wild) == 0 ? WILD[lot.nextInt(WILD.length)] : lot.nextInt(lot.nextBoolean() ? 3 : 8);
            if (m.getName().equals("feed")) p = written(lot);
            int answer = (Integer) m.invoke(all, p);
            // seed, tell and fine may answer any number: only those of the others can be told for a refusal.
            boolean refused = answer <= -1000000001 && answer >= -1000000014 && !m.getName().equals("seed");
            if (ONLY_THOUGHT.contains(m.getName()) || refused && !USING_UP.contains(m.getName())) continue;
            if ((Integer) m.invoke(few, p) != answer) return told(m, p, answer);
        }
        for (Method m : methods) {
            for (int i = 0; i < 40; i++) {
                Object[] p = new Object[m.getParameterCount()];
                for (int k = 0; k < p.length; k++) p[k] = lot.nextInt(k == 0 ? 16 : 6);
                int answer = (Integer) m.invoke(all, p);
                if ((Integer) m.invoke(few, p) != answer) return told(m, p, answer);
            }
        }
        return 0;
    }

    private static Method method(List<Method> methods, String name) {
        return methods.stream().filter(m -> m.getName().equals(name)).findFirst().get();
    }

    /** A whole small text in twelve bytes, so that laws come about. */
    private static Object[] written(Random lot) {
        String[] texts = {"hold h+a    ", "hold f*9-h  ", "stop s*9+p  ", "stop t-s    ", "fine a*p    ", "hold (h     ", "stop !s|p   "};
        byte[] b = texts[lot.nextInt(texts.length)].getBytes();
        Object[] p = new Object[3];
        for (int i = 0; i < 3; i++) p[i] = b[4 * i] << 24 | b[4 * i + 1] << 16 | b[4 * i + 2] << 8 | b[4 * i + 3];
        return p;
    }

    private static int told(Method m, Object[] p, int answer) {
        System.out.println(m.getName() + Arrays.toString(p) + " answered " + answer + " here, otherwise there");
        return 1;
    }
}
