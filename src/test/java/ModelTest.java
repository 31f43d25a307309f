import java.lang.reflect.Method;
import java.nio.charset.StandardCharsets;
import java.util.ArrayList;
import java.util.Arrays;
import java.util.List;
import java.util.Map;
import java.util.Random;
import java.util.TreeMap;

/** Long runs of calls by lot (with fixed seeds), each answer held against PlainRing's. */
public final class ModelTest {
    private static final int RUNS = 500, CALLS = 512;
    private static final int[] WILD = {Integer.MIN_VALUE, Integer.MIN_VALUE + 1, -1000000005, -100000, -1, 0, 1, 10,
        24, 25, 60, 61, 99, 100, 101, 9999, 10000, 99999, 100000, 65536, Integer.MAX_VALUE};
    /** Each call with the usual bounds of its arguments, and how often it comes. */
    private static final String[] CALLS_MADE = {
        "child 1..9 *8", "childTold 0..9 0..4 *10", "lays 0..9 0..2 0..9 *8", "paper 0..2 *8", "sorts 0..19 0..2 *4",
        "rule 0..2 0..9 *6", "stop 0..5 0..99 0..9 *8", "told 0..9 0..5 *10", "as 0..9 0..5 *4", "turns 0..9 0..5 *5",
        "set 0..9 1..2 0..99 *5", "deal 1..10 *1", "seed -9..9 *3", "lands 0..300 *6", "round *4", "go 1..6 *16",
        "odds 0..9 *8", "behind 0..100 0..5 *5", "had 0..9 0..100 *4", "all *2", "evens 0..6 *3", "steer 0..9 1..30 *3",
        "pays 0..9 1..30 0..1 *2", "worst 1..30 0..1 *2", "filmed 0..3 0..1 *2", "fine 0..9 *6", "trim 0..96 *2",
        "text *2", "textTold 0..13 0..1 *4", "why 0..2 *4", "sheet 0..3 -1..1 0..24 *4", "mark 0..3 0..23 -3..9 *20",
        "pour 0..3 *2", "reads 0..3 *4", "copy 0..3 0..12 0..3 0..12 0..12 *6", "lay 0..4 0..3 0..9 *10",
        "ask 0..4 0..5 *8", "item 0..4 0..23 *8", "rest 0..4 -9..9 *6", "tell -1..9 *8", "check 1..30 *1", "keep *2",
        "back *2", "count 0..15 *12", "written *8", "rightly *3"};

    private final Random lot;
    private final ParcelRing ring = new ParcelRing();
    private final PlainRing plain = new PlainRing();
    private final List<String> told = new ArrayList<>();
    private static final Map<String, Method> METHODS = new TreeMap<>();
    private static final Map<String, Integer> GOOD = new TreeMap<>();
    private int made;
    private boolean wrong;

    private ModelTest(long seed) {
        lot = new Random(seed);
    }

    public static void main(String[] args) throws Exception {
        for (Method m : ParcelRing.class.getDeclaredMethods()) METHODS.put(m.getName(), m);
        int runs = args.length > 0 ? Integer.parseInt(args[0]) : RUNS;
        int wrongRuns = 0;
        for (int i = 0; i < runs && wrongRuns < 3; i++) {
            ModelTest run = new ModelTest(i);
            run.play();
            if (run.wrong) {
                wrongRuns++;
                System.out.println("run " + i + ": " + String.join("; ", run.told));
            }
        }
        for (String name : METHODS.keySet()) {
            if (java.lang.reflect.Modifier.isPublic(METHODS.get(name).getModifiers()) && !GOOD.containsKey(name)) {
                System.out.println("never answered well: " + name);
                wrongRuns++;
            }
        }
        System.out.println(wrongRuns == 0 ? "the program and the plain ring answer alike" : "they differ");
        if (wrongRuns != 0) System.exit(1);
    }

    private void play() throws Exception {
        List<String[]> bag = new ArrayList<>();
        // A run starts with a ring that is likely to be of use, and has its own liking for some calls.
        int children = lot.nextInt(11), stops = lot.nextInt(8), papers = lot.nextInt(21);
        for (int i = 0; i < children; i++) same("child", 1 + lot.nextInt(9));
        for (int i = 0; i < stops; i++) same("stop", lot.nextInt(6), lot.nextInt(100), lot.nextInt(10));
        for (int i = 0; i < papers; i++) same("paper", lot.nextInt(3));
        if (lot.nextInt(3) == 0) same("rule", 0, 1);
        if (lot.nextInt(20) == 0) for (int i = 0; i < 99; i++) same("go", 100);
        for (String line : CALLS_MADE) {
            String[] parts = line.split(" ");
            int often = Integer.parseInt(parts[parts.length - 1].substring(1)) * lot.nextInt(4);
            for (int i = 0; i < often; i++) bag.add(Arrays.copyOf(parts, parts.length - 1));
        }
        while (made < CALLS && !wrong && !bag.isEmpty()) {
            String[] parts = bag.get(lot.nextInt(bag.size()));
            if (parts[0].equals("written")) {
                written();
            } else if (parts[0].equals("rightly")) {
                rightly();
            } else {
                int[] p = new int[parts.length - 1];
                for (int i = 0; i < p.length; i++) p[i] = argument(parts[i + 1]);
                same(parts[0], p);
            }
        }
    }

    private int argument(String bounds) {
        int way = lot.nextInt(40);
        if (way == 0) return WILD[lot.nextInt(WILD.length)];
        if (way == 1) return lot.nextInt();
        String[] b = bounds.split("\\.\\.");
        int low = Integer.parseInt(b[0]), high = Integer.parseInt(b[1]);
        if (way == 2) return high + 1;
        if (way == 3) return low - 1;
        return low + lot.nextInt(high - low + 1);
    }

    private void same(String name, int... p) throws Exception {
        Object[] boxed = new Object[p.length];
        for (int i = 0; i < p.length; i++) boxed[i] = p[i];
        int got = (Integer) METHODS.get(name).invoke(ring, boxed);
        int due = plain.call(name, p);
        made++;
        String call = name + Arrays.toString(p) + " " + got;
        if (told.size() > 600) told.remove(0);
        told.add(call);
        if (got > -1000000000) GOOD.merge(name, 1, Integer::sum);
        if (got != due) {
            wrong = true;
            told.add("due is " + due);
        }
    }

    /** A text comes to the tape and, most often, is read. */
    private void written() throws Exception {
        String key = List.of("hold", "stop", "fine").get(lot.nextInt(3));
        String names = key.equals("hold") ? "haf" : key.equals("stop") ? "spt" : "ap";
        StringBuilder s = new StringBuilder(key).append(' ');
        express(s, names, 1 + lot.nextInt(5));
        if (lot.nextInt(8) == 0) {
            String open = lot.nextBoolean() ? "(" : lot.nextBoolean() ? "!" : "!(";
            int many = 7 + lot.nextInt(3);
            s = new StringBuilder(key).append(' ').append(open.repeat(many)).append(names.charAt(0));
            if (!open.equals("!")) s.append(")".repeat(many));
        }
        if (s.length() > 96) s.setLength(96);
        if (lot.nextInt(3) == 0) {
            String odd = "  ab1h9()!|&<=>+-*/X\u00ff\u0000";
            int where = lot.nextInt(s.length());
            char c = odd.charAt(lot.nextInt(odd.length()));
            if (lot.nextBoolean()) s.setCharAt(where, c);
            else if (s.length() < 96) s.insert(where, c);
        }
        if (lot.nextInt(12) == 0) s.setLength(lot.nextInt(s.length() + 1));
        if (plain.call("count", 14) != 0) same("trim", 0);
        byte[] bytes = Arrays.copyOf(s.toString().getBytes(StandardCharsets.ISO_8859_1), (s.length() + 11) / 12 * 12);
        for (int i = 0; i < bytes.length; i += 12) same("feed", four(bytes, i), four(bytes, i + 4), four(bytes, i + 8));
        same("trim", s.length());
        if (lot.nextInt(10) > 0) same("text");
    }

    private static int four(byte[] b, int i) {
        return (b[i] & 255) << 24 | (b[i + 1] & 255) << 16 | (b[i + 2] & 255) << 8 | b[i + 3] & 255;
    }

    private void express(StringBuilder s, String names, int depth) {
        if (lot.nextInt(6) == 0) s.append(' ');
        int way = depth <= 0 ? lot.nextInt(3) : lot.nextInt(10);
        if (way == 0) s.append(lot.nextInt(lot.nextBoolean() ? 10 : 10000));
        else if (way < 3) s.append(names.charAt(lot.nextInt(names.length())));
        else if (way == 3) {
            s.append('!');
            express(s, names, 0);
        } else if (way == 4) {
            s.append('(');
            express(s, names, depth - 1);
            s.append(')');
        } else {
            express(s, names, depth - 1);
            s.append("|&<=>+-*/+-*/".charAt(lot.nextInt(13)));
            express(s, names, depth - 2);
        }
        if (lot.nextInt(6) == 0) s.append(' ');
    }

    /** Numbers are told that are right, or nearly so, and checked. */
    private void rightly() throws Exception {
        if (plain.image == null || lot.nextInt(3) == 0) same("keep");
        if (plain.call("count", 13) != 0) same("check", 0);
        int n = 1 + lot.nextInt(lot.nextInt(6) == 0 ? 30 : 5);
        PlainRing.World w = plain.image.copy();
        for (int i = 0; i < n && w.taken < 9999; i++) {
            same("tell", w.turn() + (lot.nextInt(40) == 0 ? 1 : 0));
            same("tell", w.spread() + (lot.nextInt(40) == 0 ? 1 : 0));
        }
        if (lot.nextInt(10) == 0) same("tell", 0);
        same("check", Math.max(1, n + (lot.nextInt(8) == 0 ? lot.nextInt(3) - 1 : 0)));
    }
}
