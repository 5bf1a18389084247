import java.lang.reflect.InvocationTargetException;
import java.lang.reflect.Method;
import java.util.ArrayList;
import java.util.HashMap;
import java.util.List;
import java.util.Map;
import java.util.Random;

/** Random runs of calls (the same each time) on a HedgeCouncil and on a PlainCouncil: each answer is the same. */
public final class RandomRunsTest {
    private static final String HEAVY = "seeds seedsFor held";
    private final Random random;
    private final HedgeCouncil x = new HedgeCouncil();
    private final PlainCouncil y = new PlainCouncil();
    private final List<String> told = new ArrayList<>();
    private final Map<String, Integer> used;
    private boolean same = true;
    private int calls = 0;

    private RandomRunsTest(long seed, Map<String, Integer> used) {
        this.random = new Random(seed);
        this.used = used;
    }

    public static void main(String[] args) throws Exception {
        int runs = args.length > 0 ? Integer.parseInt(args[0]) : 500;
        int first = args.length > 1 ? Integer.parseInt(args[1]) : 1;
        int wrong = 0;
        Map<String, Integer> used = new HashMap<>();
        for (int seed = first; seed < first + runs && wrong < 5; seed++) {
            RandomRunsTest run = new RandomRunsTest(seed, used);
            run.go();
            if (!run.same) {
                wrong++;
                System.out.println("run of seed " + seed + ":");
                for (String line : run.told) System.out.println("  " + line);
            }
        }
        for (Method m : HedgeCouncil.class.getDeclaredMethods()) {
            if (java.lang.reflect.Modifier.isPublic(m.getModifiers()) && !used.containsKey(m.getName())) {
                wrong++;
                System.out.println(m.getName() + " was never called");
            }
        }
        if (args.length > 0) System.out.println(new java.util.TreeMap<>(used));
        System.out.println(wrong == 0 ? "all answers are the same" : wrong + " runs went wrong");
        if (wrong != 0) System.exit(1);
    }

    private static Method method(Class<?> c, String name, int params) throws NoSuchMethodException {
        Class<?>[] types = new Class<?>[params];
        java.util.Arrays.fill(types, int.class);
        Method m = c.getDeclaredMethod(name, types);
        m.setAccessible(true);
        return m;
    }

    private long call(String name, int... args) throws Exception {
        if (!same || calls >= 512) return -99;
        calls++;
        Object[] boxed = new Object[args.length];
        for (int i = 0; i < args.length; i++) boxed[i] = args[i];
        long due = ((Number) method(PlainCouncil.class, name, args.length).invoke(y, boxed)).longValue();
        String got;
        try {
            got = String.valueOf(method(HedgeCouncil.class, name, args.length).invoke(x, boxed));
        } catch (InvocationTargetException e) {
            got = String.valueOf(e.getCause());
        }
        told.add(name + java.util.Arrays.toString(args) + " answered " + got + ", due is " + due);
        same = got.equals(String.valueOf(due));
        if (due >= 0) used.merge(name, 1, Integer::sum);
        return due;
    }

    private void text(String text) throws Exception {
        told.add("text: " + text);
        for (int i = 0; i < text.length(); i += 20) {
            int[] v = new int[5];
            for (int k = 0; k < 20; k++) {
                int b = i + k < text.length() ? text.charAt(i + k) : 32;
                v[k / 4] = v[k / 4] << 8 | b & 255;
            }
            call("feed", v);
        }
        call("end", text.length());
    }

    private int upTo(int most) {
        return random.nextInt(most + 1);
    }

    /** Mostly within, now and then just beyond, or far off. */
    private int around(int least, int most) {
        int r = random.nextInt(30);
        if (r == 0) return least - 1;
        if (r == 1) return most + 1;
        if (r == 2) return random.nextBoolean() ? Integer.MAX_VALUE : Integer.MIN_VALUE;
        if (r == 3) return random.nextInt();
        return least + random.nextInt(most - least + 1);
    }

    private void go() throws Exception {
        if (random.nextInt(4) > 0) setUp();
        int many = 20 + random.nextInt(300);
        for (int i = 0; i < many; i++) step();
    }

    private void setUp() throws Exception {
        int many = 1 + random.nextInt(8);
        for (int i = 0; i < many; i++) call("hedgehog", upTo(random.nextBoolean() ? 2 : 9), upTo(9));
        int dense = 1 + random.nextInt(6);
        for (int i = 0; i < many; i++) {
            for (int j = 0; j < many; j++) if (i != j && random.nextInt(6) < dense) call("watch", i, j, 1);
        }
        for (int i = random.nextInt(3); i > 0; i--) {
            text(law());
            call("law");
        }
        call("force", (int) call("count", 3) - 1);
    }

    private void step() throws Exception {
        String[] names = {"hedgehog", "watch", "watch", "of", "of", "of", "terms", "terms", "end", "row", "burrs", "law", "orders",
            "orders", "fault", "stopped", "force", "force", "touch", "coax", "coax", "tempt", "tempt", "pass", "pass", "pass", "undo",
            "undo", "later", "opens", "together", "again", "seeds", "seedsFor", "spread", "held", "chain", "chain", "knots", "heads",
            "seen", "seen", "forget", "canBe", "look", "few", "compare", "councils", "councils", "drawn", "drawn", "image", "back",
            "count", "count", "status", "status"};
        String name = names[random.nextInt(names.length)];
        if (HEAVY.contains(name) && random.nextInt(3) > 0) return;
        int hogs = y.count(0);
        switch (name) {
            case "hedgehog": call(name, around(0, 9), around(0, 9)); break;
            case "watch": call(name, around(0, 7), around(0, 7), around(0, 1)); break;
            case "of": call(name, around(0, Math.max(0, hogs - 1)), around(0, 8)); break;
            case "terms": terms(); break;
            case "end": ending(); break;
            case "row": row(); break;
            case "law": text(random.nextInt(3) == 0 ? spoilt(law()) : law()); call(name); call("fault"); break;
            case "orders": text(random.nextInt(3) == 0 ? spoilt(orders()) : orders()); call(name); call("fault"); call("stopped");
                call("count", 4); break;
            case "force": case "compare": call(name, around(-1, Math.max(0, y.count(3)))); break;
            case "touch": case "coax": case "opens": case "spread": call(name, around(0, Math.max(0, hogs - 1))); break;
            case "tempt": call(name, around(0, Math.max(0, hogs - 1)), around(0, 9)); break;
            case "later": call(name, around(0, 60)); break;
            case "seeds": case "heads": case "look": call(name, 0); call(name, 1); call(name, around(0, 1)); break;
            case "seedsFor": case "held": call(name, around(0, Math.max(0, hogs - 1)), around(0, 1)); break;
            case "chain": call(name, around(0, Math.max(0, hogs - 1)), around(0, Math.max(0, hogs - 1)), around(-1, 3)); break;
            case "seen": call(name, around(0, 60), around(0, 1)); call("canBe"); break;
            case "few": call(name, around(1, 20), around(0, 99)); break;
            case "councils": call(name, around(0, 1_000_000), around(1, 60)); break;
            case "drawn": call(name, around(0, 7), around(0, 2)); break;
            case "image": case "back": if (random.nextInt(2) == 0) call(name, around(0, 1)); break;
            case "count": call(name, around(0, 15)); break;
            default: call(name); break;
        }
    }

    private void terms() throws Exception {
        int what = random.nextInt(5) == 0 ? around(0, 3) : 1 + upTo(2);
        int most = what == 0 ? 999 : 10;
        call("terms", what, what == 0 && random.nextBoolean() ? 990 + upTo(9) : around(0, most));
    }

    private void ending() throws Exception {
        if (random.nextInt(4) == 0) {
            for (int i = random.nextInt(25); i > 0; i--) {
                call("feed", random.nextInt(), random.nextInt(), random.nextInt(), random.nextInt(), random.nextInt());
            }
        }
        call("end", around(0, 60));
        call("count", 5);
        if (random.nextInt(3) == 0) call(random.nextBoolean() ? "law" : "orders");
    }

    private void row() throws Exception {
        if (random.nextInt(3) > 0) {
            StringBuilder b = new StringBuilder();
            for (int i = random.nextInt(20); i > 0; i--) b.append((char) (random.nextInt(8) == 0 ? upTo(255) : upTo(7)));
            text(b.toString());
        }
        call("row");
        call("burrs");
    }

    private boolean inOrders;
    private int depth;

    private String law() {
        inOrders = false;
        StringBuilder b = new StringBuilder();
        int many = random.nextInt(40) == 0 ? 14 : 1 + random.nextInt(4);
        for (int i = 0; i < many && b.length() < 330; i++) {
            if (i > 0) b.append(gap()).append(';').append(gap());
            depth = 0;
            int kind = random.nextInt(5);
            if (kind < 2) b.append("needs ").append(sum());
            else if (kind < 4) b.append("wants ").append(sum());
            else b.append("shuts");
            if (kind == 4 || random.nextInt(2) == 0) b.append(" if ").append(test());
        }
        return cut(b.toString());
    }

    private String orders() {
        inOrders = true;
        StringBuilder b = new StringBuilder();
        int many = random.nextInt(40) == 0 ? 14 : 1 + random.nextInt(5);
        for (int i = 0; i < many && b.length() < 330; i++) {
            if (i > 0) b.append(gap()).append(';').append(gap());
            depth = 0;
            int kind = random.nextInt(6);
            String one = random.nextInt(5) == 0 ? sum() : String.valueOf(upTo(Math.max(0, y.count(0) - 1)));
            if (kind == 0) b.append("touch ").append(one);
            else if (kind == 1) b.append("coax ").append(one);
            else if (kind == 2) b.append("tempt ").append(one).append(" to ").append(random.nextInt(4) == 0 ? sum() : "" + upTo(9));
            else b.append("pass");
            if (random.nextInt(4) == 0) b.append(" times ").append(random.nextInt(8) == 0 ? upTo(22) : 1 + upTo(3));
            if (random.nextInt(3) == 0) b.append(" if ").append(random.nextInt(4) == 0 && b.indexOf("coax") >= 0
                ? "is " + one.charAt(0) + " = 0" : test());
        }
        return cut(b.toString());
    }

    private static String cut(String s) {
        return s.length() <= 400 ? s : s.substring(0, 400);
    }

    private String gap() {
        return random.nextInt(5) == 0 ? "  " : "";
    }

    private String test() {
        StringBuilder b = new StringBuilder(plain());
        while (random.nextInt(4) == 0) b.append(random.nextBoolean() ? " or " : " and ").append(plain());
        return b.toString();
    }

    private String plain() {
        int r = random.nextInt(12);
        if (r == 0) return "not " + plain();
        if (r < 3 && depth < 9) {
            depth++;
            String s = "(" + gap() + test() + ")";
            depth--;
            return s;
        }
        return sum() + gap() + "<>=".charAt(upTo(2)) + gap() + sum();
    }

    private String sum() {
        StringBuilder b = new StringBuilder(part());
        while (random.nextInt(3) == 0) b.append(gap()).append("+-*/%".charAt(upTo(4))).append(gap()).append(part());
        return b.toString();
    }

    private String part() {
        int r = random.nextInt(14);
        if (r == 0 && depth < 9) {
            depth++;
            String s = "[" + sum() + "]";
            depth--;
            return s;
        }
        if (r == 1) return String.valueOf(upTo(1001));
        if (r == 2) return "1000*1000*" + (999 + upTo(1));
        if (r < 7) return String.valueOf(upTo(9));
        if (inOrders) {
            String[] w = {"minute", "done", "latest", "all", "want ", "still ", "is "};
            String s = w[upTo(6)];
            return s.endsWith(" ") ? s + upTo(random.nextInt(20) == 0 ? 8 : 7) : s;
        }
        String[] w = {"who", "want", "shy", "near", "near", "all", "still", "minute", "hush", "mood"};
        return w[upTo(9)];
    }

    /** A byte more, less, or another one; a piece more, or less. */
    private String spoilt(String s) {
        int at = upTo(s.length());
        String[] pieces = {" ", ";", "if", " and ", " or ", "not ", "(", ")", "[", "]", "1001", "0001000", "want", " want ", "<", "+",
            "*", " to ", " times 3", " times 21", "A", "\t", "\u0000", "\u00ff", "pass", "shuts", "9", "is 7", "done"};
        switch (random.nextInt(4)) {
            case 0: return cut(s.substring(0, at) + pieces[random.nextInt(pieces.length)] + s.substring(at));
            case 1: return s.substring(0, at);
            case 2: return s.substring(0, at) + s.substring(Math.min(s.length(), at + 1 + random.nextInt(4)));
            default: return cut(s.substring(0, at) + (char) upTo(255) + s.substring(Math.min(s.length(), at + 1)));
        }
    }
}
