import java.lang.reflect.Constructor;
import java.lang.reflect.Field;
import java.lang.reflect.Method;
import java.lang.reflect.Modifier;
import java.nio.file.Files;
import java.nio.file.Path;
import java.util.ArrayList;
import java.util.Arrays;
import java.util.List;
import java.util.Set;
import java.util.TreeSet;
import java.util.regex.Matcher;
import java.util.regex.Pattern;

/** The public face is the document's and no more; the source keeps to the rules of LANGUAGE.md that a test can see. */
public final class FaceTest {
    private static final String FACE = "child 1 childTold 2 lays 3 paper 1 sorts 2 rule 2 stop 3 told 2 as 2 turns 2 set 3 "
        + "deal 1 seed 1 lands 1 round 0 go 1 odds 1 behind 2 had 2 all 0 evens 1 steer 2 pays 3 worst 2 filmed 2 fine 1 "
        + "feed 3 trim 1 text 0 textTold 2 why 1 sheet 3 mark 3 pour 1 reads 1 copy 5 lay 3 ask 2 item 2 rest 2 tell 1 "
        + "check 1 keep 0 back 0 count 1";
    private static final String CONSTANTS = "BAD -1000000001 NO -1000000002 FULL -1000000003 NONE -1000000005 "
        + "NOTHING -1000000011 KIND -1000000012 INDEX -1000000013 SIZE -1000000014";

    private static int wrong = 0;

    private static void must(boolean holds, String what) {
        if (!holds) {
            wrong++;
            System.out.println("not so: " + what);
        }
    }

    public static void main(String[] args) throws Exception {
        face();
        classesInside();
        source();
        System.out.println(wrong == 0 ? "the face and the source are as the rules say" : wrong + " rules are broken");
        if (wrong != 0) System.exit(1);
    }

    private static void face() throws Exception {
        Class<?> c = ParcelRing.class;
        must(Modifier.isPublic(c.getModifiers()) && Modifier.isFinal(c.getModifiers()), "the class is public and final");
        Constructor<?>[] made = c.getDeclaredConstructors();
        must(made.length == 1 && Modifier.isPublic(made[0].getModifiers()) && made[0].getParameterCount() == 0, "one constructor");
        Set<String> want = pairs(FACE), got = new TreeSet<>();
        for (Method m : c.getDeclaredMethods()) {
            if (Modifier.isPrivate(m.getModifiers()) || m.isSynthetic()) continue;
            must(Modifier.isPublic(m.getModifiers()) && !Modifier.isStatic(m.getModifiers()), m.getName() + " is public");
            must(m.getReturnType() == int.class, m.getName() + " answers an int");
            must(Arrays.stream(m.getParameterTypes()).allMatch(t -> t == int.class), m.getName() + " takes ints");
            got.add(m.getName() + " " + m.getParameterCount());
        }
        must(want.equals(got), "the methods are " + want + " but are " + got);
        Set<String> constants = new TreeSet<>();
        for (Field f : c.getDeclaredFields()) {
            if (Modifier.isPrivate(f.getModifiers())) continue;
            must(f.getModifiers() == (Modifier.PUBLIC | Modifier.STATIC | Modifier.FINAL), f.getName() + " is a constant");
            constants.add(f.getName() + " " + f.getInt(null));
        }
        must(pairs(CONSTANTS).equals(constants), "the constants are " + constants);
    }

    private static Set<String> pairs(String row) {
        String[] words = row.split(" ");
        Set<String> pairs = new TreeSet<>();
        for (int i = 0; i < words.length; i += 2) pairs.add(words[i] + " " + words[i + 1]);
        return pairs;
    }

    private static void classesInside() {
        Set<String> publicNames = new TreeSet<>();
        for (String pair : pairs(FACE)) publicNames.add(pair.split(" ")[0]);
        List<Class<?>> all = new ArrayList<>(Arrays.asList(ParcelRing.class.getDeclaredClasses()));
        all.add(ParcelRing.class);
        must(all.size() <= 12, "at most twelve classes");
        for (Class<?> c : all) {
            boolean inside = c != ParcelRing.class;
            must(!inside || Modifier.isStatic(c.getModifiers()) && !Modifier.isPublic(c.getModifiers()), c + " is static and not public");
            int fields = 0;
            for (Field f : c.getDeclaredFields()) {
                if (Modifier.isStatic(f.getModifiers())) must(Modifier.isFinal(f.getModifiers()), f + " is final");
                else fields++;
            }
            must(fields <= 20, c + " has at most twenty fields");
            for (Method m : c.getDeclaredMethods()) {
                must(m.getParameterCount() <= 7, m + " takes at most seven");
                boolean ofFace = !inside && Modifier.isPublic(m.getModifiers());
                must(ofFace || !publicNames.contains(m.getName()), m + " does not bear a public name");
            }
        }
    }

    private static void source() throws Exception {
        String raw = Files.readString(Path.of("src/main/java/ParcelRing.java"));
        must(raw.chars().allMatch(b -> b == '\n' || b >= 32 && b < 127), "plain signs alone");
        String s = raw.replaceAll("(?s)/\\*.*?\\*/", " ").replaceAll("//[^\n]*", " ").replaceAll("\"[^\"\n]*\"", "\"\"");
        for (String word : "throw throws try catch finally synchronized assert static\\s*\\{ volatile native goto var record Object".split(" ")) {
            must(!Pattern.compile("\\b" + word + "\\b").matcher(s).find(), "without " + word);
        }
        for (String sign : new String[] {"->", "::", "@", "\" +", "+ \"", "package ", ".equals(", ".toString(", ".hashCode("}) {
            must(!s.contains(sign), "without " + sign);
        }
        Matcher imports = Pattern.compile("import ([^;]*);").matcher(s);
        while (imports.find()) must(imports.group(1).matches("java\\.util\\.(Arrays|ArrayList|List)"), "import " + imports.group(1));
        Matcher calls = Pattern.compile("\\b(Math|Arrays|System|Integer|Long)\\.(\\w+)").matcher(s);
        while (calls.find()) {
            must(Set.of("max", "min", "abs", "floorMod", "floorDiv", "arraycopy", "copyOf", "copyOfRange", "fill").contains(calls.group(2)), calls.group());
        }
        methodsAreShort(s);
    }

    private static void methodsAreShort(String s) {
        int start = -1;
        String name = "";
        String[] lines = s.split("\n");
        for (int i = 0; i < lines.length; i++) {
            if (lines[i].matches(" {4}(public|private)[^;=]*\\(.*\\{|  {7}(static |final |private )*\\w[\\w\\[\\]]* ?\\w*\\(.*\\) \\{") && !lines[i].trim().matches("(for|if|while|switch|else).*")) {
                start = i;
                name = lines[i].trim();
            }
            if (start >= 0 && lines[i].matches(" {4}( {4})?\\}")) {
                must(i - start <= 60, name + " is short");
            }
        }
    }
}
