import java.lang.reflect.Array;
import java.lang.reflect.Constructor;
import java.lang.reflect.Field;
import java.lang.reflect.InvocationTargetException;
import java.lang.reflect.Method;
import java.lang.reflect.Modifier;
import java.nio.file.Files;
import java.nio.file.Path;
import java.util.ArrayList;
import java.util.Arrays;
import java.util.IdentityHashMap;
import java.util.List;
import java.util.Map;
import java.util.Random;
import java.util.TreeSet;
import java.util.regex.Matcher;
import java.util.regex.Pattern;

/** The public face, rules of the language that can be told by a search, no call throws, what is made. */
public final class FaceTest {
    static final String FACE = "alphabet/2 back/0 bestSwap/1 chain/0 change/2 close/0 count/1 enter/2 fault/0 fits/0 "
        + "keep/0 lay/0 lend/3 letter/2 match/1 may/2 net/1 newYear/0 owed/2 payments/0 person/2 price/1 quarrel/2 "
        + "rename/1 repay/3 run/1 seats/1 shortest/5 spell/1 sure/1 swap/2 undo/0 unspell/0 wed/2 wide/1 wipe/0 "
        + "write/1 year/2";
    static final int[] EDGES = {Integer.MIN_VALUE, Integer.MIN_VALUE + 1, -10000, -100, -27, -9, -5, -4, -3, -2, -1, 0,
        1, 2, 3, 4, 5, 6, 7, 8, 9, 10, 11, 12, 25, 26, 27, 31, 32, 64, 99, 100, 126, 127, 200, 255, 256, 999, 1000,
        9999, 10000, 65521, 1 << 16, 1 << 30, Integer.MAX_VALUE - 1, Integer.MAX_VALUE};

    static int wrong = 0;

    static void check(String what, boolean right) {
        if (!right) {
            wrong++;
            System.out.println(what);
        }
    }

    static List<Method> calls() {
        List<Method> all = new ArrayList<>();
        for (Method m : ByInitials.class.getDeclaredMethods()) {
            if (Modifier.isPublic(m.getModifiers())) {
                all.add(m);
            }
        }
        all.sort((a, b) -> a.getName().compareTo(b.getName()));
        return all;
    }

    static void face() {
        check("public and final", Modifier.isPublic(ByInitials.class.getModifiers())
            && Modifier.isFinal(ByInitials.class.getModifiers()));
        TreeSet<String> found = new TreeSet<>();
        for (Method m : ByInitials.class.getDeclaredMethods()) {
            boolean hidden = Modifier.isPrivate(m.getModifiers()) || m.isSynthetic();
            if (!hidden) {
                found.add(m.getName() + "/" + m.getParameterCount());
                check("an int: " + m, m.getReturnType() == int.class && Modifier.isPublic(m.getModifiers()));
            }
        }
        check("methods: " + found, found.equals(new TreeSet<>(Arrays.asList(FACE.split(" ")))));
        TreeSet<String> fields = new TreeSet<>();
        for (Field f : ByInitials.class.getDeclaredFields()) {
            if (!Modifier.isPrivate(f.getModifiers()) && !f.isSynthetic()) {
                fields.add(f.getName());
            }
        }
        check("constants: " + fields, fields.equals(new TreeSet<>(List.of("BAD", "NO", "OVER", "NONE"))));
        check("their numbers", ByInitials.BAD == -1 && ByInitials.NO == -2 && ByInitials.OVER == -3
            && ByInitials.NONE == -4);
        Constructor<?>[] made = ByInitials.class.getDeclaredConstructors();
        check("one constructor", made.length == 1 && made[0].getParameterCount() == 0);
    }

    static void names() {
        TreeSet<String> open = new TreeSet<>();
        for (Method m : calls()) {
            open.add(m.getName());
        }
        for (Class<?> c : ByInitials.class.getDeclaredClasses()) {
            check("static: " + c, Modifier.isStatic(c.getModifiers()));
            check("fields of " + c, c.getDeclaredFields().length <= 24);
            for (Method m : c.getDeclaredMethods()) {
                check("bears a public name: " + m, !open.contains(m.getName()));
            }
        }
        check("classes", ByInitials.class.getDeclaredClasses().length <= 12);
    }

    static void source() throws Exception {
        String text = Files.readString(Path.of("src/main/java/ByInitials.java"));
        String code = text.replaceAll("(?s)/\\*.*?\\*/", "").replaceAll("//[^\n]*", "").replaceAll("\"[^\"\n]*\"", "\"\"");
        for (String word : List.of("import", "package", "try", "catch", "finally", "throw", "throws", "synchronized",
                "assert", "instanceof", "native", "volatile", "double", "float", "hashCode", "toString", "Random",
                "currentTimeMillis", "nanoTime", "Thread", "File", "protected", "var", "yield")) {
            check("in the source: " + word, !Pattern.compile("\\b" + word + "\\b").matcher(code).find());
        }
        check("a lambda or a method reference", !code.contains("->") && !code.contains("::"));
        check("letters beyond ASCII", text.chars().allMatch(c -> c < 128));
        Matcher m = Pattern.compile("\\b(?:System|Math|Integer|Long|Arrays)\\.(\\w+)").matcher(code);
        while (m.find()) {
            check("of the library: " + m.group(), List.of("arraycopy", "abs", "min", "max", "bitCount").contains(m.group(1)));
        }
        methodLengths(text.split("\n"));
    }

    /** A method begins at a line that ends with ") {", and ends at a } that stands as far in. */
    static void methodLengths(String[] lines) {
        for (int k = 0; k < lines.length; k++) {
            Matcher head = Pattern.compile("( {4}| {8})[a-z].*\\) \\{").matcher(lines[k]);
            boolean method = head.matches() && !lines[k].trim().matches("(if|for|while|switch)\\b.*");
            for (int end = k; method && !lines[end].equals(head.group(1) + "}"); end++) {
                check("a long method at line " + (k + 1), end - k < 60);
            }
        }
    }

    static void noThrow() throws Exception {
        Random draw = new Random(7);
        List<Method> all = calls();
        String signs = "nnnn,,,,;;;;;;gwcovq0123456789abcz";
        for (int run = 0; run < 1500; run++) {
            ByInitials x = new ByInitials();
            for (int k = 0; k < 512; k++) {
                Method m = all.get(draw.nextInt(all.size()));
                Object[] with = new Object[m.getParameterCount()];
                for (int p = 0; p < with.length; p++) {
                    int kind = draw.nextInt(4);
                    with[p] = kind == 0 ? EDGES[draw.nextInt(EDGES.length)] : kind == 1 ? draw.nextInt() : draw.nextInt(9);
                    if (m.getName().equals("write")) {
                        with[p] = (int) signs.charAt(draw.nextInt(signs.length()));
                    }
                }
                try {
                    m.invoke(x, with);
                } catch (InvocationTargetException e) {
                    check(m.getName() + Arrays.toString(with) + " threw " + e.getCause(), false);
                }
            }
        }
    }

    /** Objects and arrays that hang together with this one; what they hold is added to held[0]. */
    static void walk(Object x, Map<Object, Boolean> seen, long[] held) throws Exception {
        if (x == null || x instanceof String || seen.put(x, true) != null) {
            return;
        }
        if (x.getClass().isArray()) {
            held[0] += Array.getLength(x);
            for (int k = 0; x instanceof Object[] && k < Array.getLength(x); k++) {
                walk(Array.get(x, k), seen, held);
            }
            return;
        }
        for (Field f : x.getClass().getDeclaredFields()) {
            if (!Modifier.isStatic(f.getModifiers())) {
                held[0]++;
                f.setAccessible(true);
                if (!f.getType().isPrimitive()) {
                    walk(f.get(x), seen, held);
                }
            }
        }
    }

    /** As many objects as one has calls must find room together, and no call may make more. */
    static void room() throws Exception {
        Map<Object, Boolean> seen = new IdentityHashMap<>();
        long[] held = {0};
        walk(new ByInitials(), seen, held);
        check("objects: " + seen.size(), seen.size() * 512L < 600000);
        check("fields and elements: " + held[0], held[0] * 512 < 7300000);
        String text = Files.readString(Path.of("src/main/java/ByInitials.java"));
        int made = 0;
        for (String row : text.replaceAll("(?s)/\\*.*?\\*/", "").replaceAll("//[^\n]*", "").split("\n")) {
            boolean field = row.matches("( {4}private| {8})\\s?final \\S+ \\w+ = new .*;");
            made += Pattern.compile("\\bnew\\b").matcher(row).find() && !field ? 1 : 0;
        }
        check("rows with new that are no fields, but for the two of Memory: " + made, made == 2);
    }

    public static void main(String[] args) throws Exception {
        face();
        names();
        source();
        noThrow();
        room();
        System.out.println(wrong == 0 ? "the face is as told" : wrong + " faults");
        if (wrong != 0) {
            System.exit(1);
        }
    }
}
