import java.lang.reflect.InvocationTargetException;
import java.lang.reflect.Method;
import java.lang.reflect.Modifier;
import java.nio.charset.StandardCharsets;
import java.util.Arrays;
import java.util.Comparator;
import java.util.function.ToIntFunction;
import java.util.stream.IntStream;

/** What the tests by hand share: rings to begin with, answers that are due, and how tests that name a promise are run. */
class Checks {
    static final int BAD = ParcelRing.BAD, NO = ParcelRing.NO, FULL = ParcelRing.FULL, NONE = ParcelRing.NONE;
    static final int NOTHING = ParcelRing.NOTHING, KIND = ParcelRing.KIND, INDEX = ParcelRing.INDEX;
    static final int SIZE = ParcelRing.SIZE;
    static final int MIN = Integer.MIN_VALUE, MAX = Integer.MAX_VALUE;

    static int wrong = 0;
    static String promise = "";

    /** Runs every method that is called promiseN_..., and sees to it that each promise of these has one. */
    static void run(Class<?> tests, int first, int last) throws Exception {
        Method[] methods = tests.getDeclaredMethods();
        Arrays.sort(methods, Comparator.comparing(Method::getName));
        boolean[] seen = new boolean[last + 1];
        int many = 0;
        for (Method m : methods) {
            if (!m.getName().startsWith("promise")) continue;
            if (!Modifier.isStatic(m.getModifiers()) || m.getParameterCount() != 0) throw new IllegalStateException(m.getName());
            promise = m.getName();
            seen[Integer.parseInt(promise.substring(7, promise.indexOf('_')))] = true;
            many++;
            try {
                m.invoke(null);
            } catch (InvocationTargetException e) {
                fail("it threw " + e.getCause());
            }
        }
        for (int i = first; i <= last; i++) {
            promise = "promise " + i;
            if (!seen[i]) fail("it has no test");
        }
        finish(many + " cases hold");
    }

    static void finish(String well) {
        System.out.println(wrong == 0 ? well : wrong + " answers are not as due");
        if (wrong != 0) System.exit(1);
    }

    static void fail(String what) {
        wrong++;
        int line = 0;
        for (StackTraceElement at : new Throwable().getStackTrace()) {
            if (line == 0 && !at.getClassName().equals("Checks")) line = at.getLineNumber();
        }
        System.out.println(promise + ", line " + line + ": " + what);
    }

    static void due(int want, int... gots) {
        for (int i = 0; i < gots.length; i++) {
            if (gots[i] != want) fail("answer " + i + " is " + gots[i] + ", due is " + want);
        }
    }

    static void row(int[] want, int... gots) {
        if (!Arrays.equals(want, gots)) fail(Arrays.toString(gots) + ", due is " + Arrays.toString(want));
    }

    static int[] of(int... numbers) {
        return numbers;
    }

    static ParcelRing ring(int... holds) {
        ParcelRing x = new ParcelRing();
        for (int hold : holds) x.child(hold);
        return x;
    }

    static void papers(ParcelRing x, int... sorts) {
        for (int sort : sorts) x.paper(sort);
    }

    static int[] hads(ParcelRing x) {
        int[] hads = new int[x.count(0)];
        for (int i = 0; i < hads.length; i++) hads[i] = x.childTold(i, 1);
        return hads;
    }

    /** Turns, until so many papers are taken; with few calls, as an object is good for 512. */
    static void takeUpTo(ParcelRing x, int taken) {
        for (int now = x.count(4); now < taken; now += 100) x.go(Math.min(100, taken - now));
    }

    static int[] drawn(int z, int n) {
        int[] draws = new int[n];
        for (int i = 0; i < n; i++) {
            z = z * 1103515245 + 12345;
            draws[i] = z >>> 8;
        }
        return draws;
    }

    /** What z is behind n draws. */
    static int drawnOn(int z, int n) {
        for (int i = 0; i < n; i++) z = z * 1103515245 + 12345;
        return z;
    }

    static int four(byte[] b, int i) {
        return (b[i] & 255) << 24 | (b[i + 1] & 255) << 16 | (b[i + 2] & 255) << 8 | b[i + 3] & 255;
    }

    static void write(ParcelRing x, String s) {
        x.trim(0);
        byte[] b = Arrays.copyOf(s.getBytes(StandardCharsets.ISO_8859_1), (s.length() + 11) / 12 * 12);
        for (int i = 0; i < b.length; i += 12) x.feed(four(b, i), four(b, i + 4), four(b, i + 8));
        x.trim(s.length());
    }

    static int text(ParcelRing x, String s) {
        write(x, s);
        return x.text();
    }

    static void fault(int place, String s) {
        int got = text(new ParcelRing(), s);
        if (got != -100 - place) fail("'" + s + "' answered " + got + ", due is the fault " + place);
    }

    static void good(String s) {
        int got = text(new ParcelRing(), s);
        if (got != 0) fail("'" + s + "' answered " + got + ", due is 0");
    }

    /** What a text of the key fine works out to for a child that has had so many, with so many taken. */
    static void gives(int want, String e, int had, int taken) {
        ParcelRing x = ring(1);
        x.lays(0, 1, had);
        takeUpTo(x, taken);
        text(x, "fine " + e);
        if (x.fine(0) != want) fail("'" + e + "' gave " + x.fine(0) + ", due is " + want);
    }

    /** Each call is refused with this on the full object, and changes nothing of it. */
    @SafeVarargs
    static void refused(int want, ToIntFunction<ParcelRing>... calls) {
        for (ToIntFunction<ParcelRing> call : calls) {
            ParcelRing x = full();
            due(want, call.applyAsInt(x));
            row(everything(full()), everything(x));
        }
    }

    /** Each call is only thought: the full object is as it was. */
    @SafeVarargs
    static void thought(ToIntFunction<ParcelRing>... calls) {
        for (ToIntFunction<ParcelRing> call : calls) {
            ParcelRing x = full();
            int first = call.applyAsInt(x);
            due(first, call.applyAsInt(x));
            row(everything(full()), everything(x));
        }
    }

    /**
     * An object in which all is taken up: 10 children, 20 papers, 10 stops, 13 texts and one on the tape, 96 bytes,
     * 60 numbers that wait (they are right), an image (of one child and one stop), sheets of shorts (0: 6 places),
     * floats (1: 6 places, that with the number 2 NO NUMBER), none (2: shorts, 0 places), MISSING (3); slots with a
     * lot (0), a row of shorts (1), the number 17 (2), nothing (3), a row of floats (4).
     */
    static ParcelRing full() {
        ParcelRing x = ring(1);
        x.stop(0, 0, 0);
        x.keep();
        for (int i = 0; i < 60; i++) x.tell(0);
        for (int i = 1; i < 10; i++) {
            x.child(i);
            x.lays(i, 1, 3 * i);
            x.stop(i % 6, 10 + i, i);
        }
        x.lays(4, 2, 1);
        for (int i = 0; i < 20; i++) x.paper(i % 3);
        String[] laws = {"hold h+a", "stop s+p", "fine a+p"};
        for (int i = 0; i < 13; i++) text(x, laws[i % 3]);
        for (int i = 0; i < 3; i++) x.sheet(i, i % 2, i == 2 ? 0 : 6);
        for (int i = 0; i < 6; i++) {
            x.mark(0, i, 40 - i);
            x.mark(1, i, i == 2 ? NONE : -50 - i);
        }
        x.lay(0, 1, 1);
        x.lay(1, 2, 0);
        x.lay(2, 3, 17);
        x.lay(4, 2, 1);
        x.rule(0, 1);
        x.rule(1, 0);
        x.rule(2, 5);
        x.seed(99);
        x.go(3);
        write(x, "fine a*1000+7" + " ".repeat(83));
        return x;
    }

    /** All that can be asked of an object; it is used up by this. */
    static int[] everything(ParcelRing x) {
        IntStream.Builder all = IntStream.builder();
        for (int i = 0; i < 16; i++) all.add(x.count(i));
        for (int i = 0; i < x.count(0); i++) for (int what = 0; what < 5; what++) all.add(x.childTold(i, what));
        for (int i = 0; i < x.count(3); i++) all.add(x.sorts(i, 0));
        for (int i = 0; i < x.count(2); i++) for (int what = 0; what < 4; what++) all.add(x.told(i, what));
        for (int i = 0; i < 5; i++) {
            all.add(x.ask(i, 0)).add(x.rest(i, 1000));
            for (int k = 0; k < 7; k++) all.add(x.item(i, k));
        }
        for (int i = 0; i < 4; i++) {
            all.add(x.lay(0, 2, i));
            for (int k = 0; k < 7; k++) all.add(x.item(0, k));
        }
        for (int i = 0; i < 3; i++) all.add(x.why(i));
        all.add(x.text()).add(x.fine(0)).add(x.fine(3)).add(x.check(30)).add(x.back());
        for (int i = 0; i < 16; i++) all.add(x.count(i));
        for (int what = 0; what < 5; what++) all.add(x.childTold(0, what));
        return all.build().toArray();
    }
}
