import java.lang.reflect.Constructor;
import java.lang.reflect.Field;
import java.lang.reflect.Method;
import java.lang.reflect.Modifier;
import java.nio.charset.StandardCharsets;
import java.nio.file.Files;
import java.nio.file.Path;
import java.util.ArrayList;
import java.util.HashSet;
import java.util.List;
import java.util.Set;
import java.util.TreeSet;
import java.util.regex.Matcher;
import java.util.regex.Pattern;

/** The public face, and those rules of LANGUAGE.md that can be seen from the outside or in the text. */
public final class FaceTest {
    private static final Due due = new Due();
    private static final String FACE = "int hedgehog(2) int watch(3) int of(2) int terms(2) int feed(5) int end(1) int row(0) int burrs(0) "
        + "int law(0) int orders(0) int fault(0) int stopped(0) int force(1) int touch(1) int coax(1) int tempt(2) int pass(0) "
        + "int undo(0) int later(1) int opens(1) int together(0) int again(0) int seeds(1) int seedsFor(2) int spread(1) int held(2) "
        + "int chain(3) int knots(0) int heads(1) int seen(2) int forget(0) int canBe(0) int look(1) long few(2) int compare(1) "
        + "int councils(2) int drawn(2) int image(1) int back(1) int count(1) int status(0)";

    private FaceTest() {
    }

    public static void main(String[] args) throws Exception {
        face();
        classesInside();
        words();
        lengths();
        room();
        due.close();
    }

    private static void face() {
        due.promise(1, "the public face");
        Class<?> c = HedgeCouncil.class;
        due.isSo("it is public and final", Modifier.isPublic(c.getModifiers()) && Modifier.isFinal(c.getModifiers()));
        Set<String> told = new TreeSet<>();
        Set<String> names = new HashSet<>();
        for (Method m : c.getDeclaredMethods()) {
            if (Modifier.isPrivate(m.getModifiers())) continue;
            names.add(m.getName());
            told.add(m.getReturnType() + " " + m.getName() + "(" + m.getParameterCount() + ")");
            for (Class<?> p : m.getParameterTypes()) due.isSo(m + " takes ints", p == int.class);
            due.isSo(m + " is public, not static", m.getModifiers() == Modifier.PUBLIC);
        }
        Set<String> wanted = new TreeSet<>();
        for (String s : FACE.split(" (?=int|long)")) wanted.add(s);
        due.isSo("its methods are " + told, told.equals(wanted));
        Constructor<?>[] made = c.getDeclaredConstructors();
        due.isSo("one public constructor", made.length == 1 && Modifier.isPublic(made[0].getModifiers())
            && made[0].getParameterCount() == 0);
        for (Method m : allMethods()) {
            if (!(m.getDeclaringClass() == c && Modifier.isPublic(m.getModifiers()))) {
                due.isSo("no other method has a public one's name: " + m, !names.contains(m.getName()));
            }
            due.isSo("seven parameters at most: " + m, m.getParameterCount() <= 7);
        }
        for (Field f : c.getDeclaredFields()) {
            boolean none = f.getName().equals("NONE");
            due.isSo("fields are private: " + f, none == Modifier.isPublic(f.getModifiers()) && (none || Modifier.isPrivate(f.getModifiers())));
        }
    }

    private static List<Class<?>> all() {
        List<Class<?>> list = new ArrayList<>(List.of(HedgeCouncil.class.getDeclaredClasses()));
        list.add(HedgeCouncil.class);
        return list;
    }

    private static List<Method> allMethods() {
        List<Method> list = new ArrayList<>();
        for (Class<?> c : all()) list.addAll(List.of(c.getDeclaredMethods()));
        return list;
    }

    private static void classesInside() {
        due.promise(1, "rules 1, 2, 5, 11");
        due.isSo("twelve classes at most", all().size() <= 12);
        for (Class<?> c : all()) {
            int own = 0;
            for (Field f : c.getDeclaredFields()) {
                if (Modifier.isStatic(f.getModifiers())) due.isSo("static fields are final: " + f, Modifier.isFinal(f.getModifiers()));
                else own++;
            }
            due.isSo("some twenty fields at most: " + c, own <= 20);
            if (c != HedgeCouncil.class) {
                due.isSo("it is static: " + c, Modifier.isStatic(c.getModifiers()) && !Modifier.isPublic(c.getModifiers()));
                due.is("no classes within: " + c, c.getDeclaredClasses().length, 0);
            }
        }
    }

    private static String source() throws Exception {
        return Files.readString(Path.of("src/main/java/HedgeCouncil.java"), StandardCharsets.ISO_8859_1);
    }

    /** The program without its comments, its texts and signs. */
    private static String bare() throws Exception {
        String s = source().replaceAll("(?s)/\\*.*?\\*/", " ").replaceAll("//[^\n]*", " ");
        return s.replaceAll("\"[^\"\n]*\"", "\"\"").replaceAll("'[^'\n]+'", "'.'");
    }

    private static void words() throws Exception {
        due.promise(1, "rules 3 to 6, 10, 13");
        String s = bare();
        String banned = "throw|throws|try|catch|synchronized|assert|package|record|interface|yield|var|native|volatile|transient"
            + "|Object|System\\.(?!arraycopy)|Math\\.\\w*Exact|Thread|Random|String\\.|equals|hashCode|toString|abstract|protected";
        Matcher m = Pattern.compile("\\b(" + banned + ")\\b|->|::|\"\" *\\+|\\+ *\"\"|@").matcher(s);
        due.isSo("nothing that is left out" + (m.find() ? ": " + m.group() : ""), m.reset().results().count() == 0);
        List<String> imports = Pattern.compile("import [^;]*;").matcher(s).results().map(r -> r.group()).toList();
        due.isSo("imports " + imports, imports.equals(List.of("import java.util.Arrays;")));
        due.isSo("signs 1 to 127", source().chars().allMatch(c -> c == '\n' || c >= 32 && c < 127));
        due.isSo("no while (true)", !Pattern.compile("while *\\( *true|for *\\([^;]*; *;").matcher(s).find());
    }

    private static void lengths() throws Exception {
        due.promise(1, "rule 11: lengths");
        int start = 0;
        int at = 0;
        for (String line : source().split("\n")) {
            at++;
            if (line.matches("( {4}| {8})[a-zA-Z].*\\) \\{")) start = at;
            if (line.matches("( {4}| {8})\\}")) due.isSo("a method of " + (at - start) + " lines ends at " + at, start == 0 || at - start <= 60);
            if (line.matches("( {4}| {8})\\}")) start = 0;
        }
    }

    private interface Calls {
        long on(HedgeCouncil x, int call);
    }

    /** The bytes that 500 calls on one object make: the constructor and what can be kept are most of it. */
    private static void makes(String name, Calls calls, long most) {
        com.sun.management.ThreadMXBean threads = (com.sun.management.ThreadMXBean) java.lang.management.ManagementFactory.getThreadMXBean();
        long id = Thread.currentThread().getId();
        long made = Long.MAX_VALUE;
        // The machine makes something of its own now and then, so the least of some rounds counts.
        for (int round = 0; round < 5; round++) {
            long before = threads.getThreadAllocatedBytes(id);
            HedgeCouncil x = Due.council(8, 9);
            for (int i = 0; i < 500; i++) calls.on(x, i);
            made = Math.min(made, threads.getThreadAllocatedBytes(id) - before);
        }
        due.isSo(name + " make " + made + " bytes", made <= most);
    }

    private static void room() {
        due.promise(1, "rule 12: what calls make");
        makes("passes", (x, i) -> x.pass(), 40_000);
        makes("touches and undos", (x, i) -> i % 3 == 2 ? x.undo() : x.touch(i % 8), 40_000);
        makes("images and backs", (x, i) -> i % 2 == 0 ? x.image(i / 2 % 2) : x.back(i / 2 % 2), 40_000);
        makes("seeds", (x, i) -> i % 50 == 0 ? x.seeds(0) : x.seedsFor(i % 8, 1), 40_000);
        makes("councils", (x, i) -> x.councils(i, 60), 40_000);
        makes("chains", (x, i) -> x.chain(i % 8, i / 8 % 8, -1) + x.knots() + x.heads(1), 40_000);
        makes("chances", (x, i) -> x.few(20, 99), 40_000);
        int[] law = {0x73687574, 0x73202020, 0x20202020, 0x20202020, 0x20202020};
        makes("laws", (x, i) -> i % 16 == 15 ? x.back(0) : i == 0 ? x.image(0)
            : i % 2 == 0 ? x.feed(law[0], law[1], law[2], law[3], law[4]) : x.law(), 200_000);
        makes("orders", (x, i) -> i % 2 == 0 ? x.feed(0x70617373, 0x20202020, 0x20202020, 0x20202020, 0x20202020) : x.orders(), 40_000);
    }
}
