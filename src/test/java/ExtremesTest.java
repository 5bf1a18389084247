import java.lang.reflect.InvocationTargetException;
import java.lang.reflect.Method;
import java.lang.reflect.Modifier;
import java.util.ArrayList;
import java.util.List;

/**
 * Each public method with the numbers at, just below and just beyond each bound that the document names, on councils
 * that are empty, half full and full: the answer is PlainCouncil's, and none ever throws.
 */
public final class ExtremesTest {
    private static final int[] NUMBERS = {Integer.MIN_VALUE, Integer.MIN_VALUE + 1, -2, -1, 0, 1, 2, 3, 4, 5, 6, 7, 8, 9, 10, 11, 15, 16, 19, 20,
        21, 31, 32, 33, 59, 60, 61, 64, 99, 100, 400, 401, 998, 999, 1000, 1_000_000, 1_000_001, Integer.MAX_VALUE};
    private static final int[] FEWER = {Integer.MIN_VALUE, -2, -1, 0, 1, 2, 3, 7, 8, 9, 32, Integer.MAX_VALUE};
    private static final int CALLS = 300;
    private static int asked = 0;
    private static int wrong = 0;

    private final HedgeCouncil x = new HedgeCouncil();
    private final PlainCouncil y = new PlainCouncil();
    private final int state;

    private ExtremesTest(int state) throws Exception {
        this.state = state;
        if (state > 0) halfFull();
        if (state > 1) full();
    }

    public static void main(String[] args) throws Exception {
        for (Method m : HedgeCouncil.class.getDeclaredMethods()) {
            if (Modifier.isPublic(m.getModifiers())) for (int state = 0; state < 3; state++) all(m, state);
        }
        System.out.println(wrong == 0 ? asked + " answers are the same" : wrong + " answers are not the same");
        if (wrong != 0) System.exit(1);
    }

    private static void all(Method m, int state) throws Exception {
        List<int[]> calls = arguments(m.getParameterCount());
        for (int from = 0; from < calls.size(); from += CALLS) {
            ExtremesTest test = new ExtremesTest(state);
            for (int[] args : calls.subList(from, Math.min(calls.size(), from + CALLS))) test.call(m.getName(), args);
            for (int what = 0; what < 16; what++) test.call("count", what);
            test.call("status");
            test.call("later", 60);
            test.call("canBe");
        }
    }

    private static List<int[]> arguments(int many) {
        List<int[]> list = new ArrayList<>();
        if (many == 0) for (int i = 0; i < 25; i++) list.add(new int[0]);
        if (many == 1) for (int a : NUMBERS) list.add(new int[] {a});
        if (many == 2) for (int a : NUMBERS) for (int b : NUMBERS) list.add(new int[] {a, b});
        if (many == 3) for (int a : FEWER) for (int b : FEWER) for (int c : FEWER) list.add(new int[] {a, b, c});
        if (many == 5) for (int a : NUMBERS) list.add(new int[] {a, -a, a, 255, a});
        return list;
    }

    private void call(String name, int... args) throws Exception {
        Class<?>[] types = new Class<?>[args.length];
        Object[] boxed = new Object[args.length];
        for (int i = 0; i < args.length; i++) {
            types[i] = int.class;
            boxed[i] = args[i];
        }
        String due = String.valueOf(PlainCouncil.class.getMethod(name, types).invoke(y, boxed));
        String got;
        try {
            got = String.valueOf(HedgeCouncil.class.getMethod(name, types).invoke(x, boxed));
        } catch (InvocationTargetException e) {
            got = String.valueOf(e.getCause());
        }
        asked++;
        if (!got.equals(due)) {
            wrong++;
            System.out.println("state " + state + ": " + name + java.util.Arrays.toString(args) + " answered " + got + ", due is " + due);
        }
    }

    private void text(String text) throws Exception {
        StringBuilder padded = new StringBuilder(text);
        while (padded.length() % 20 != 0) padded.append(' ');
        for (int i = 0; i < padded.length(); i += 20) {
            int[] v = new int[5];
            for (int k = 0; k < 20; k++) v[k / 4] = v[k / 4] << 8 | padded.charAt(i + k);
            call("feed", v);
        }
    }

    private void halfFull() throws Exception {
        for (int h = 0; h < 4; h++) call("hedgehog", h, 9 - h);
        int[][] watches = {{1, 0}, {2, 1}, {3, 2}, {3, 0}, {0, 2}};
        for (int[] w : watches) call("watch", w[0], w[1], 1);
        text("needs want if shy > 7;wants [want + 1] % 4;shuts if still % 5 = 3");
        call("law");
        call("force", 0);
        call("terms", 1, 4);
        call("seen", 3, 1);
        call("image", 0);
        call("coax", 1);
        call("pass");
        call("touch", 2);
        call("tempt", 3, 9);
        call("councils", 896, 7);
    }

    private void full() throws Exception {
        for (int h = 4; h < 8; h++) call("hedgehog", h % 3, h);
        for (int h = 4; h < 8; h++) call("watch", h, h - 1, 1);
        for (int i = 1; i < 6; i++) {
            text("needs " + i);
            call("law");
        }
        for (int i = 1; i < 6; i++) call("seen", 10 * i, i % 2);
        call("terms", 0, 994);
        call("coax", 7);
        for (int i = 0; i < 5; i++) call("pass");
        for (int h = 0; h < 8; h++) call("tempt", h, 8);
        call("councils", 5, 60);
        call("image", 1);
        for (int i = 0; i < 4; i++) call("touch", 2 * i);
    }
}
