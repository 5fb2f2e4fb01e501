import java.io.IOException;
import java.lang.reflect.Array;
import java.lang.reflect.Constructor;
import java.lang.reflect.Field;
import java.lang.reflect.Method;
import java.lang.reflect.Modifier;
import java.nio.charset.StandardCharsets;
import java.nio.file.Files;
import java.nio.file.Path;
import java.util.Collections;
import java.util.IdentityHashMap;
import java.util.Set;
import java.util.TreeSet;
import java.util.regex.Matcher;
import java.util.regex.Pattern;

/** The public face, the rules of LANGUAGE.md that can be seen from outside, and the room that an object takes. */
public final class FaceTest {
    private static final Check CHECK = new Check("FaceTest");
    private static final String[] FACE = {
        "int cell(int,int,int)", "int link(int,int,int)", "int river(int,int,int,int)", "int drain(int,int,int)", "int well(int,int,int)",
        "int rain(int,int)", "int ease(int,int)", "int rate(int,int)", "int stage(int,int)", "int pattern()", "long head(int,boolean)",
        "int milli(int)", "int flow(int)", "int gives(int)", "int takes(int)", "int dry(int)", "int salt(int)", "long through(boolean)",
        "int way(int,int)", "int end(int)", "long time(int,boolean)", "long wayTime(int)", "int zone(int)", "int spill(int,int)",
        "int pour(int,int)", "int cups(int)", "int mark(int)", "int tick(int)", "long book(int)", "int world(int,int)", "int see(int,int,int)",
        "int left()", "int inWorld(int,int)", "int next()", "int alike(int)", "int sign(int)", "int wipe()", "int fault()", "int holds()",
        "int limit(int,int)", "int worth()", "int level(int)", "int draw()", "int price(int)", "int harm(int)", "int share(int,int)", "int count(int)"};

    public static void main(String[] args) throws IOException, IllegalAccessException {
        face();
        constants();
        source();
        room();
        CHECK.end();
    }

    private static void due(String rule, long got, long want) {
        CHECK.due("face", rule, got, want);
    }

    private static void face() {
        Class<?> c = GroundWaters.class;
        due("public and final", c.getModifiers(), Modifier.PUBLIC | Modifier.FINAL);
        Set<String> want = new TreeSet<>(Set.of(FACE)), open = new TreeSet<>(), names = new TreeSet<>();
        for (Method m : c.getDeclaredMethods()) {
            if (Modifier.isPrivate(m.getModifiers())) continue;
            names.add(m.getName());
            StringBuilder b = new StringBuilder(m.getReturnType() + " " + m.getName() + "(");
            for (Class<?> p : m.getParameterTypes()) b.append(b.charAt(b.length() - 1) == '(' ? "" : ",").append(p);
            open.add(b + ")");
        }
        if (!open.equals(want)) System.out.println("the methods are " + open);
        due("methods of the face", open.equals(want) ? 1 : 0, 1);
        for (Constructor<?> k : c.getDeclaredConstructors()) due("constructor", k.getParameterCount() + k.getModifiers(), Modifier.PUBLIC);
        for (Class<?> inside : c.getDeclaredClasses()) {
            due(inside + " is static", inside.getModifiers() & Modifier.STATIC, Modifier.STATIC);
            for (Method m : inside.getDeclaredMethods()) due(m + " has a name of its own", names.contains(m.getName()) ? 1 : 0, 0);
            due(inside + ": fields", fieldsOf(inside) <= 20 ? 1 : 0, 1);
        }
        due("classes", c.getDeclaredClasses().length + 1 <= 12 ? 1 : 0, 1);
        for (Method m : c.getDeclaredMethods()) {
            boolean secret = Modifier.isPrivate(m.getModifiers());
            due(m + " has a name of its own", secret && names.contains(m.getName()) ? 1 : 0, 0);
        }
    }

    private static int fieldsOf(Class<?> c) {
        int n = 0;
        for (Field f : c.getDeclaredFields()) if (!Modifier.isStatic(f.getModifiers())) n++;
        return n;
    }

    private static void constants() throws IllegalAccessException {
        due("UNKNOWN", GroundWaters.UNKNOWN, -10000001);
        due("BAD", GroundWaters.BAD, -10000002);
        due("STATE", GroundWaters.STATE, -10000003);
        due("FULL", GroundWaters.FULL, -10000004);
        due("NONE", GroundWaters.NONE, -10000009);
        int open = 0;
        for (Field f : GroundWaters.class.getDeclaredFields()) if (!Modifier.isPrivate(f.getModifiers())) open++;
        due("fields of the face", open, 5);
    }

    private static void source() throws IOException {
        String text = Files.readString(Path.of("src/main/java/GroundWaters.java"), StandardCharsets.UTF_8);
        String code = text.replaceAll("(?s)/\\*.*?\\*/", " ").replaceAll("//[^\n]*", " ");
        String no = "\\b(throw|throws|try|catch|synchronized|assert|package|volatile|native|transient|var|Exact|System\\.out|String|Object|double|float)\\b|->|::|Exact\\(|@";
        Matcher m = Pattern.compile(no).matcher(code);
        due("words that the language leaves out", m.find() ? m.start() : -1, -1);
        Matcher imports = Pattern.compile("import ([\\w.]+);").matcher(code);
        while (imports.find()) due("import " + imports.group(1), imports.group(1).equals("java.util.Arrays") ? 1 : 0, 1);
        due("signs of ASCII alone", text.chars().allMatch(s -> s < 127) ? 1 : 0, 1);
        int longest = 0, begun = 0, at = 0;
        for (String line : text.split("\n")) {
            at++;
            if (line.matches("    ( {4})?[\\w\\[\\] <>]+\\(.*\\) \\{")) begun = at;
            if (line.matches("    ( {4})?\\}") && begun > 0) {
                longest = Math.max(longest, at - begun + 1);
                begun = 0;
            }
        }
        due("methods were found", longest > 10 ? 1 : 0, 1);
        due("methods of sixty lines at most", longest <= 60 ? 1 : 0, 1);
    }

    /** Many objects may live in one room of 600000 objects and 7.3 million fields and elements. */
    private static void room() throws IllegalAccessException {
        GroundWaters x = new GroundWaters();
        long[] before = new long[2], after = new long[2];
        weigh(x, before, Collections.newSetFromMap(new IdentityHashMap<>()), 0);
        due("objects of one", before[0] <= 150 ? 1 : 0, 1);
        due("fields and elements of one", before[1] <= 3000 ? 1 : 0, 1);
        for (int i = 0; i < 60; i++) {
            x.cell(0, i, 1);
            x.link(i % 6, (i + 1) % 6, 1);
            x.river(0, i, 0, 1);
            x.well(i % 6, i, i);
            x.world(i % 12, 1 + i % 9);
            x.sign('(');
            x.worth();
            x.left();
            x.spill(0, 100);
        }
        weigh(x, after, Collections.newSetFromMap(new IdentityHashMap<>()), 0);
        due("objects after many calls", after[0], before[0]);
        due("fields and elements after many calls", after[1], before[1]);
    }

    private static void weigh(Object o, long[] sums, Set<Object> met, int depth) throws IllegalAccessException {
        if (o == null || depth > 20 || !met.add(o)) return;
        sums[0]++;
        if (o.getClass().isArray()) {
            int n = Array.getLength(o);
            sums[1] += n;
            if (!o.getClass().getComponentType().isPrimitive()) for (int i = 0; i < n; i++) weigh(Array.get(o, i), sums, met, depth + 1);
            return;
        }
        for (Field f : o.getClass().getDeclaredFields()) {
            if (Modifier.isStatic(f.getModifiers())) continue;
            sums[1]++;
            f.setAccessible(true);
            if (!f.getType().isPrimitive()) weigh(f.get(o), sums, met, depth + 1);
        }
    }
}
