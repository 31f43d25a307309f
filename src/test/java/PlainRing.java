import java.util.ArrayDeque;
import java.util.ArrayList;
import java.util.Arrays;
import java.util.Collections;
import java.util.Deque;
import java.util.List;
import java.util.function.Predicate;

/**
 * The document once more, written otherwise than the program: kinds are classes, seconds are walked one by one,
 * what is only thought is played on a deep copy, texts are read by a list of words and worked out anew each time.
 * It is slow and free with objects; the program is held against it.
 */
final class PlainRing {
    static final int BAD = -1000000001, NO = -1000000002, FULL = -1000000003, NONE = -1000000005;
    static final int NOTHING = -1000000011, KIND = -1000000012, INDEX = -1000000013, SIZE = -1000000014;

    static final class Kid {
        int hold, had;
        boolean in = true;

        Kid copy() {
            Kid k = new Kid();
            k.hold = hold;
            k.had = had;
            k.in = in;
            return k;
        }
    }

    static class Halt {
        int seconds, wish;

        int number() { return 0; }
        int lasts(World w, int x) { return w.law("stop") == null ? seconds : Math.max(0, Math.min(999, w.stopLaw(this))); }
        int goes(World w, int landed) { return landed; }
        int worth() { return seconds; }

        static Halt of(int kind, int seconds, int wish) {
            Halt h;
            switch (kind) {
                case 1: h = new Lot(); break;
                case 2: h = new Evening(); break;
                case 3: h = new Snatched(); break;
                case 4: h = new Wished(); break;
                case 5: h = new Held(); break;
                default: h = new Halt();
            }
            h.seconds = seconds;
            h.wish = wish;
            return h;
        }

        static Class<?> classOf(int kind) { return of(kind, 0, 0).getClass(); }
        Halt copy() { return of(number(), seconds, wish); }
    }

    static class Lot extends Halt {
        @Override int number() { return 1; }
        @Override int lasts(World w, int x) { return super.lasts(w, x) + x; }
        @Override int worth() { return super.worth() + 9; }
    }

    static final class Snatched extends Lot {
        @Override int number() { return 3; }
        @Override int goes(World w, int landed) { return w.next(super.goes(w, landed)); }
        @Override int worth() { return 2 * super.worth(); }
    }

    static class Evening extends Halt {
        @Override int number() { return 2; }
        @Override int goes(World w, int landed) {
            List<Integer> order = new ArrayList<>();
            int n = w.kids.size();
            for (int i = 0; i < n; i++) {
                order.add(Math.floorMod(landed + (w.way == 1 ? i : -i), n));
            }
            order.removeIf(c -> !w.kids.get(c).in);
            int least = order.stream().mapToInt(c -> w.kids.get(c).had).min().getAsInt();
            return order.stream().filter(c -> w.kids.get(c).had == least).findFirst().get();
        }
        @Override int worth() { return 99 - seconds; }
    }

    static final class Wished extends Evening {
        @Override int number() { return 4; }
        @Override int goes(World w, int landed) {
            return wish < w.kids.size() && w.kids.get(wish).in ? wish : super.goes(w, landed);
        }
        @Override int worth() { return super.worth() - 5; }
    }

    static final class Held extends Halt {
        @Override int number() { return 5; }
        @Override int lasts(World w, int x) { return Math.max(0, super.lasts(w, x) - 1); }
        @Override int worth() { return 4; }
    }

    static final class World {
        List<Kid> kids = new ArrayList<>();
        List<Integer> papers = new ArrayList<>();
        List<Halt> halts = new ArrayList<>();
        List<List<String>> texts = new ArrayList<>();
        int taken, way = 1, at, rule, time, sweets, forfeits, z = 1;

        World copy() {
            World w = new World();
            kids.forEach(k -> w.kids.add(k.copy()));
            w.papers.addAll(papers);
            halts.forEach(h -> w.halts.add(h.copy()));
            w.texts.addAll(texts);
            w.taken = taken;
            w.way = way;
            w.at = at;
            w.rule = rule;
            w.time = time;
            w.sweets = sweets;
            w.forfeits = forfeits;
            w.z = z;
            return w;
        }

        List<String> law(String key) {
            List<String> found = null;
            for (List<String> t : texts) {
                if (t.get(0).equals(key)) found = t;
            }
            return found;
        }

        int stopLaw(Halt h) { return PlainText.value(law("stop"), "s", h.seconds, "p", taken, "t", time); }
        int sort() { return taken < papers.size() ? papers.get(taken) : 0; }

        int holds(Kid k) {
            if (law("hold") != null) {
                int v = PlainText.value(law("hold"), "h", k.hold, "a", k.had, "f", sort());
                return v < 1 ? 1 : v > 99 ? 99 : v;
            }
            return sort() == 2 ? 1 : k.hold;
        }

        int in() { return (int) kids.stream().filter(k -> k.in).count(); }

        int next(int from) {
            int n = kids.size();
            for (int i = 1; i <= n; i++) {
                int c = Math.floorMod(way == 1 ? from + i : from - i, n);
                if (kids.get(c).in) return c;
            }
            return NONE;
        }

        int lands(int s) {
            if (in() == 0) return NONE;
            int c = kids.get(at).in ? at : next(at);
            int heldFor = 0;
            int[] holds = kids.stream().mapToInt(this::holds).toArray();
            for (int second = 0; second < s; second++) {
                heldFor++;
                if (heldFor == holds[c]) {
                    c = next(c);
                    heldFor = 0;
                }
            }
            return c;
        }

        int draw() {
            z = z * 1103515245 + 12345;
            return z >>> 8;
        }

        int spread() {
            if (kids.isEmpty()) return 0;
            List<Integer> hads = new ArrayList<>();
            kids.forEach(k -> hads.add(k.had));
            return Collections.max(hads) - Collections.min(hads);
        }

        int hungry() { return (int) kids.stream().filter(k -> k.had == 0).count(); }

        Halt halt() { return halts.get(taken % halts.size()); }

        int turn() {
            int has = -1;
            if (!halts.isEmpty() && in() > 0) {
                Halt h = halt();
                int x = h instanceof Lot ? draw() % 10 : 0;
                int lasts = h.lasts(this, x);
                has = h.goes(this, lands(lasts));
                time += lasts;
                at = has;
                Kid k = kids.get(has);
                if (k.had < 99) k.had++;
                if (sort() == 1) sweets++;
                if (sort() == 2) {
                    forfeits++;
                    way = way == 1 ? 0 : 1;
                }
                if (rule == 1 && in() > 2) k.in = false;
            }
            taken++;
            return has;
        }

        World behind(int n) {
            World w = copy();
            for (int i = 0; i < n; i++) w.turn();
            return w;
        }
    }

    World now = new World();
    World image;
    List<Integer> tape = new ArrayList<>();
    List<Integer> waiting = new ArrayList<>();
    /** Rows of whole numbers, null for NO NUMBER; the sort stands beside it. */
    Integer[][] sheets = new Integer[4][];
    int[] sorts = new int[4];
    Object[] slots = new Object[5];

    static boolean in(int v, int a, int b) { return a <= v && v <= b; }
    boolean isKid(int c) { return in(c, 0, now.kids.size() - 1); }
    boolean isHalt(int s) { return in(s, 0, now.halts.size() - 1); }

    int call(String name, int... p) {
        int a = p.length > 0 ? p[0] : 0, b = p.length > 1 ? p[1] : 0, c = p.length > 2 ? p[2] : 0;
        switch (name) {
            case "child": {
                if (!in(a, 1, 9)) return BAD;
                if (now.kids.size() == 10) return FULL;
                Kid k = new Kid();
                k.hold = a;
                now.kids.add(k);
                return now.kids.size() - 1;
            }
            case "childTold": {
                if (!isKid(a) || !in(b, 0, 4)) return BAD;
                Kid k = now.kids.get(a);
                return new int[] {k.hold, k.had, k.in ? 0 : 1, now.holds(k), now.next(a)}[b];
            }
            case "lays": {
                if (!isKid(a) || !in(b, 0, 2)) return BAD;
                if (!in(c, b == 0 ? 1 : 0, new int[] {9, 99, 1}[b])) return BAD;
                int was = call("childTold", a, b);
                Kid k = now.kids.get(a);
                if (b == 0) k.hold = c;
                if (b == 1) k.had = c;
                if (b == 2) k.in = c == 0;
                return was;
            }
            case "paper":
                if (!in(a, 0, 2)) return BAD;
                if (now.papers.size() == 20) return FULL;
                now.papers.add(a);
                return now.papers.size() - 1;
            case "sorts":
                return in(a, 0, now.papers.size() - 1) && in(b, 0, 2) ? now.papers.set(a, b) : BAD;
            case "rule": {
                if (!in(a, 0, 2) || (a < 2 ? !in(b, 0, 1) : !isKid(b))) return BAD;
                int was = new int[] {now.rule, now.way, now.at}[a];
                if (a == 0) now.rule = b;
                if (a == 1) now.way = b;
                if (a == 2) now.at = b;
                return was;
            }
            case "lands":
                return !in(a, 0, 9999) ? BAD : now.lands(a);
            case "round":
                return now.kids.stream().filter(k -> k.in).mapToInt(now::holds).sum();
            case "go":
                if (!in(a, 1, 100)) return BAD;
                for (int i = 0; i < a && now.taken < 9999; i++) now.turn();
                return now.at;
            case "seed": {
                int was = now.z;
                now.z = a;
                return was;
            }
            case "fine":
                if (!isKid(a)) return BAD;
                return now.law("fine") == null ? now.kids.get(a).had
                    : PlainText.value(now.law("fine"), "a", now.kids.get(a).had, "p", now.taken, "", 0);
            case "keep":
                image = now.copy();
                return now.kids.size();
            case "back":
                if (image == null) return NO;
                now = image.copy();
                return now.kids.size();
            case "stop": case "told": case "as": case "turns": case "set": case "deal":
                return halts(name, a, b, c);
            case "odds": case "behind": case "had": case "all": case "evens":
            case "steer": case "pays": case "worst": case "filmed":
                return thoughts(name, a, b, c);
            case "feed": case "trim": case "text": case "textTold": case "why":
                return texts(name, a, b, c);
            case "sheet": case "mark": case "pour": case "reads":
                return sheets(name, a, b, c);
            case "copy":
                return copy(a, b, c, p[3], p[4]);
            case "lay": case "ask": case "item": case "rest":
                return slots(name, a, b, c);
            case "tell":
                if (waiting.size() == 60) return FULL;
                waiting.add(a);
                return waiting.size();
            case "check":
                return check(a);
            case "count":
                return count(a);
            default:
                throw new IllegalStateException(name);
        }
    }

    private int halts(String name, int a, int b, int c) {
        if (name.equals("stop")) {
            if (!in(a, 0, 5) || !in(b, 0, 99) || !in(c, 0, 9)) return BAD;
            if (now.halts.size() == 10) return FULL;
            now.halts.add(Halt.of(a, b, c));
            return now.halts.size() - 1;
        }
        if (name.equals("deal")) {
            if (!in(a, 1, 10)) return BAD;
            int came = 0;
            while (came < a && now.halts.size() < 10) {
                int kind = now.draw() % 6, seconds = now.draw() % 60, wish = now.draw() % 10;
                now.halts.add(Halt.of(kind, seconds, wish));
                came++;
            }
            return came;
        }
        if (!isHalt(a)) return BAD;
        Halt h = now.halts.get(a);
        switch (name) {
            case "told":
                if (!in(b, 0, 5)) return BAD;
                return new int[] {h.number(), h.seconds, h.wish, h.lasts(now, 0), h.lasts(now, 9), h.worth()}[b];
            case "as":
                if (!in(b, 0, 5)) return BAD;
                return Halt.classOf(b).isInstance(h) ? h.seconds : KIND;
            case "turns":
                if (!in(b, 0, 5)) return BAD;
                now.halts.set(a, Halt.of(b, h.seconds, h.wish));
                return h.number();
            default: {
                if (b == 1 && in(c, 0, 99)) {
                    int was = h.seconds;
                    h.seconds = c;
                    return was;
                }
                if (b == 2 && in(c, 0, 9)) {
                    int was = h.wish;
                    h.wish = c;
                    return was;
                }
                return BAD;
            }
        }
    }

    private int thoughts(String name, int a, int b, int c) {
        switch (name) {
            case "odds": {
                if (!isKid(a)) return BAD;
                if (now.halts.isEmpty() || now.in() == 0) return NO;
                Halt h = now.halt();
                int many = 0;
                for (int x = 0; x < 10; x++) {
                    if (h.goes(now, now.lands(h.lasts(now, x))) == a) many++;
                }
                return many;
            }
            case "behind": {
                if (!in(a, 0, 100) || !in(b, 0, 5)) return BAD;
                World w = now.behind(a);
                return new int[] {w.at, w.spread(), w.hungry(), w.time, w.sweets, w.forfeits}[b];
            }
            case "had":
                return isKid(a) && in(b, 0, 100) ? now.behind(b).kids.get(a).had : BAD;
            case "all":
                return first(w -> w.hungry() == 0);
            case "evens":
                if (!in(a, 0, 99)) return BAD;
                return first(w -> w.spread() <= a);
            case "steer": {
                if (!isKid(a) || !in(b, 1, 30)) return BAD;
                int best = NONE;
                for (int k = 0; k < b; k++) {
                    World w = now.behind(k);
                    w.halts.replaceAll(h -> Halt.of(2, h.seconds, h.wish));
                    if (w.behind(b - k - 1).turn() == a) best = k;
                }
                return best;
            }
            case "pays": {
                if (!isKid(a) || !in(b, 1, 60) || !in(c, 0, 1)) return BAD;
                int[] hads = new int[10];
                for (int hold = 9; hold >= 1; hold--) {
                    World w = now.copy();
                    w.kids.get(a).hold = hold;
                    hads[hold] = w.behind(b).kids.get(a).had;
                }
                int most = Arrays.stream(hads).max().getAsInt();
                for (int hold = 1; hold <= 9; hold++) if (hads[hold] == most) return c == 0 ? hold : most;
                throw new IllegalStateException();
            }
            case "worst": {
                if (!in(a, 1, 60) || !in(b, 0, 1)) return BAD;
                int best = NONE, least = NONE;
                for (int paper = now.papers.size() - 1; paper >= 0; paper--) {
                    World w = now.copy();
                    w.papers.set(paper, 2);
                    int spread = w.behind(a).spread();
                    if (least == NONE || spread <= least) {
                        best = paper;
                        least = spread;
                    }
                }
                return b == 0 ? best : least;
            }
            default: {
                if (!in(a, 0, 3) || !in(b, 0, 1)) return BAD;
                if (sheets[a] == null) return NOTHING;
                int best = -1, least = 99;
                for (int seconds = 40; seconds >= 0; seconds--) {
                    World w = now.copy();
                    for (Halt h : w.halts) h.seconds = seconds;
                    int wrong = 0;
                    for (Integer tells : sheets[a]) {
                        int has = w.turn();
                        if (tells != null && tells != has) wrong++;
                    }
                    if (wrong <= least) {
                        best = seconds;
                        least = wrong;
                    }
                }
                return b == 0 ? best : least;
            }
        }
    }

    private int first(Predicate<World> reached) {
        World w = now;
        for (int n = 0; n <= 60; n++) {
            if (reached.test(w)) return n;
            w = w.behind(1);
        }
        return NONE;
    }

    private int texts(String name, int a, int b, int c) {
        switch (name) {
            case "feed":
                if (tape.size() + 12 > 96) return FULL;
                for (int v : new int[] {a, b, c}) {
                    for (int shift : new int[] {24, 16, 8, 0}) tape.add(v >> shift & 0xff);
                }
                return tape.size();
            case "trim":
                if (!in(a, 0, tape.size())) return BAD;
                tape = new ArrayList<>(tape.subList(0, a));
                return a;
            case "text": {
                List<Integer> read = tape;
                tape = new ArrayList<>();
                List<String> words = new ArrayList<>();
                int fault = PlainText.fault(read, words);
                if (fault >= 0) return -100 - fault;
                if (now.texts.size() == 14) return FULL;
                now.texts.add(words);
                return now.texts.size() - 1;
            }
            case "textTold": {
                if (!in(a, 0, now.texts.size() - 1) || !in(b, 0, 1)) return BAD;
                List<String> t = now.texts.get(a);
                if (b == 0) return List.of("hold", "stop", "fine").indexOf(t.get(0));
                return (int) t.stream().skip(1).filter(w -> Character.isLetterOrDigit(w.charAt(0))).count();
            }
            default: {
                if (!in(a, 0, 2)) return BAD;
                int found = NONE;
                for (int i = 0; i < now.texts.size(); i++) if (call("textTold", i, 0) == a) found = i;
                return found;
            }
        }
    }

    private int sheets(String name, int a, int b, int c) {
        if (!in(a, 0, 3)) return BAD;
        if (name.equals("sheet")) {
            if (!in(b, -1, 1)) return BAD;
            if (b == -1) {
                sheets[a] = null;
                return 0;
            }
            if (c > 24) return BAD;
            if (c < 0) return SIZE;
            sheets[a] = new Integer[c];
            Arrays.fill(sheets[a], 0);
            sorts[a] = b;
            return c;
        }
        Integer[] row = sheets[a];
        if (row == null) return NOTHING;
        switch (name) {
            case "mark":
                if (!in(b, 0, row.length - 1)) return INDEX;
                if (sorts[a] == 0) {
                    if (c == NONE) return KIND;
                    row[b] = (int) (short) c;
                    return 1;
                }
                if (c != NONE && Math.abs((long) c) > 99999) return BAD;
                row[b] = c == NONE ? null : Integer.valueOf(c);
                return 1;
            case "pour": {
                int otherwise = 0;
                for (int i = 0; i < row.length; i++) {
                    if (row[i] == null || i >= now.halts.size()) continue;
                    int seconds = row[i] < 0 ? 0 : row[i] > 99 ? 99 : row[i];
                    if (now.halts.get(i).seconds != seconds) otherwise++;
                    now.halts.get(i).seconds = seconds;
                }
                return otherwise;
            }
            default:
                for (int i = 0; i < row.length; i++) {
                    if (row[i] == null) continue;
                    if (i >= now.kids.size() || now.kids.get(i).had != row[i]) return i;
                }
                return NONE;
        }
    }

    private int copy(int from, int place, int to, int at, int many) {
        if (!in(from, 0, 3) || !in(to, 0, 3)) return BAD;
        if (sheets[from] == null || sheets[to] == null) return NOTHING;
        if (sorts[from] != sorts[to]) return KIND;
        Integer[] before = sheets[from].clone();
        try {
            System.arraycopy(before, place, sheets[to], at, many);
        } catch (IndexOutOfBoundsException e) {
            return INDEX;
        }
        return many;
    }

    private int slots(String name, int a, int b, int c) {
        if (!in(a, 0, 4)) return BAD;
        if (name.equals("lay")) {
            if (!in(b, 0, 3) || b == 1 && !isHalt(c) || b == 2 && !in(c, 0, 3)) return BAD;
            if (b == 2 && sheets[c] == null) return NOTHING;
            Object held = slots[a];
            Object[] things = new Object[4];
            if (b == 1) things[1] = now.halts.get(c).copy();
            if (b == 2) things[2] = sheets[c].clone();
            if (b == 3) things[3] = c;
            slots[a] = things[b];
            return held == null ? 0 : held instanceof Halt ? 1 : held instanceof Integer[] ? 2 : 3;
        }
        if (name.equals("ask") && !in(b, 0, 5)) return BAD;
        Object held = slots[a];
        if (held == null) return NOTHING;
        switch (name) {
            case "ask":
                return held instanceof Halt && Halt.classOf(b).isInstance(held) ? ((Halt) held).worth() : KIND;
            case "item": {
                if (!(held instanceof Integer[])) return KIND;
                Integer[] row = (Integer[]) held;
                if (!in(b, 0, row.length - 1)) return INDEX;
                return row[b] == null ? KIND : row[b];
            }
            default:
                if (!(held instanceof Integer)) return KIND;
                return b == 0 ? NO : (int) ((long) (Integer) held % (long) b);
        }
    }

    private int check(int n) {
        List<Integer> had = waiting;
        waiting = new ArrayList<>();
        if (!in(n, 1, 30)) return BAD;
        if (image == null) return NO;
        World w = image.copy();
        List<Integer> due = new ArrayList<>();
        for (int i = 0; i < n && w.taken < 9999; i++) {
            due.add(w.turn());
            due.add(w.spread());
        }
        if (due.equals(had)) return 0;
        int ahead = 0;
        while (ahead < due.size() && ahead < had.size() && due.get(ahead).equals(had.get(ahead))) ahead++;
        return 1 + ahead;
    }

    private int count(int what) {
        if (!in(what, 0, 15)) return BAD;
        return new int[] {now.kids.size(), now.in(), now.halts.size(), now.papers.size(), now.taken, now.at, now.way,
            now.rule, now.time, now.sweets, now.forfeits, now.spread(), now.texts.size(), waiting.size(), tape.size(),
            now.z}[what];
    }

    /** Texts as lists of words and signs, read by a machine with a stack of open brackets. */
    static final class PlainText {
        static int fault(List<Integer> bytes, List<String> words) {
            StringBuilder all = new StringBuilder();
            bytes.forEach(b -> all.append((char) (int) b));
            String s = all.toString();
            // For each open bracket (and one for the whole): whether a test stands in it, how many ! wait there.
            Deque<boolean[]> tested = new ArrayDeque<>();
            Deque<int[]> nots = new ArrayDeque<>();
            tested.push(new boolean[1]);
            nots.push(new int[1]);
            boolean wantsPiece = true;
            int i = 0;
            int lastWordEnd = -1;
            while (true) {
                while (i < s.length() && s.charAt(i) == ' ') i++;
                if (i == s.length()) return words.isEmpty() || wantsPiece || tested.size() > 1 ? s.length() : -1;
                int end = i;
                while (end < s.length() && s.charAt(end) >= 'a' && s.charAt(end) <= 'z') end++;
                if (end == i) while (end < s.length() && s.charAt(end) >= '0' && s.charAt(end) <= '9') end++;
                boolean isWord = end > i;
                if (!isWord) end = i + 1;
                String word = s.substring(i, end);
                if (isWord && lastWordEnd == i) return i;
                if (words.isEmpty()) {
                    if (!List.of("hold", "stop", "fine").contains(word)) return i;
                } else if (wantsPiece) {
                    int open = nots.stream().mapToInt(n -> n[0]).sum();
                    if (word.equals("!")) {
                        if (open == 8) return i;
                        nots.peek()[0]++;
                    } else if (word.equals("(")) {
                        if (tested.size() - 1 == 8) return i;
                        tested.push(new boolean[1]);
                        nots.push(new int[1]);
                    } else if (word.matches("[0-9]{1,4}") || isName(words.get(0), word)) {
                        nots.peek()[0] = 0;
                        wantsPiece = false;
                    } else {
                        return i;
                    }
                } else if (word.equals(")")) {
                    if (tested.size() == 1) return i;
                    tested.pop();
                    nots.pop();
                    nots.peek()[0] = 0;
                } else if ("<=>".contains(word)) {
                    if (tested.peek()[0]) return i;
                    tested.peek()[0] = true;
                    wantsPiece = true;
                } else if ("|&".contains(word)) {
                    tested.peek()[0] = false;
                    wantsPiece = true;
                } else if ("+-*/".contains(word)) {
                    wantsPiece = true;
                } else {
                    return i;
                }
                words.add(word);
                lastWordEnd = isWord ? end : -1;
                i = end;
            }
        }

        static boolean isName(String key, String word) {
            return word.length() == 1 && (key.equals("hold") ? "haf" : key.equals("stop") ? "spt" : "ap").contains(word);
        }

        static int value(List<String> text, String n1, int v1, String n2, int v2, String n3, int v3) {
            List<String> words = new ArrayList<>(text.subList(1, text.size()));
            words.replaceAll(w -> w.equals(n1) ? "#" + v1 : w.equals(n2) ? "#" + v2 : w.equals(n3) ? "#" + v3
                : Character.isDigit(w.charAt(0)) ? "#" + Integer.parseInt(w) : w);
            while (words.contains("(")) {
                int close = words.indexOf(")");
                int open = words.subList(0, close).lastIndexOf("(");
                int v = flat(new ArrayList<>(words.subList(open + 1, close)));
                words.subList(open, close + 1).clear();
                words.add(open, "#" + v);
            }
            return flat(words);
        }

        /** Works out a row without brackets, the tightest signs first. */
        static int flat(List<String> w) {
            for (int i = w.size() - 1; i >= 0; i--) {
                if (w.get(i).equals("!")) {
                    w.set(i, number(w.get(i + 1)) == 0 ? "#1" : "#0");
                    w.remove(i + 1);
                }
            }
            for (String signs : new String[] {"*/", "+-", "<=>", "&", "|"}) {
                int i = 1;
                while (i < w.size()) {
                    if (signs.contains(w.get(i))) {
                        w.set(i - 1, "#" + join(number(w.get(i - 1)), w.get(i), number(w.get(i + 1))));
                        w.remove(i + 1);
                        w.remove(i);
                    } else {
                        i += 2;
                    }
                }
            }
            return number(w.get(0));
        }

        static int number(String w) { return Integer.parseInt(w.substring(1)); }

        static int join(int a, String sign, int b) {
            switch (sign) {
                case "*": return a * b;
                case "/": return b == 0 ? 0 : a / b;
                case "+": return a + b;
                case "-": return a - b;
                case "<": return a < b ? 1 : 0;
                case "=": return a == b ? 1 : 0;
                case ">": return a > b ? 1 : 0;
                case "&": return a != 0 && b != 0 ? 1 : 0;
                default: return a != 0 || b != 0 ? 1 : 0;
            }
        }
    }
}
