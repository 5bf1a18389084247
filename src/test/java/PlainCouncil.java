import java.math.BigInteger;
import java.util.ArrayDeque;
import java.util.ArrayList;
import java.util.Arrays;
import java.util.Deque;
import java.util.List;
import java.util.function.ToIntFunction;
import java.util.regex.Matcher;
import java.util.regex.Pattern;

/**
 * The document once more, written by itself and for plainness alone (trees, lists, exceptions, copies of all),
 * so that random runs can be compared: see RandomRunsTest.
 */
final class PlainCouncil {
    static final class Hog {
        int want;
        int shy;
        boolean[] watches = new boolean[8];
        boolean open;
        int still;

        Hog copy() {
            Hog h = new Hog();
            h.want = want;
            h.shy = shy;
            h.watches = watches.clone();
            h.open = open;
            h.still = still;
            return h;
        }
    }

    static final class World {
        List<Hog> hogs = new ArrayList<>();
        int[] terms = {0, 1, 0, 0};
        List<int[]> seen = new ArrayList<>();
        List<List<Clause>> laws = new ArrayList<>();
        int force = -1;

        World copy() {
            World w = new World();
            for (Hog h : hogs) w.hogs.add(h.copy());
            w.terms = terms.clone();
            w.seen = new ArrayList<>(seen);
            w.laws = new ArrayList<>(laws);
            w.force = force;
            return w;
        }

        int bits() {
            int b = 0;
            for (int i = 0; i < hogs.size(); i++) if (hogs.get(i).open) b |= 1 << i;
            return b;
        }

        int open() {
            return Integer.bitCount(bits());
        }

        List<Clause> law() {
            return force < 0 ? List.of() : laws.get(force);
        }
    }

    static final class Broken extends RuntimeException {
        private static final long serialVersionUID = 1;
    }

    static final class Fault extends RuntimeException {
        private static final long serialVersionUID = 1;
        final int place;

        Fault(int place) {
            this.place = place;
        }
    }

    static final class Stop extends RuntimeException {
        private static final long serialVersionUID = 1;
    }

    interface Asked {
        long ask(String word);
    }

    interface Sum {
        BigInteger of(Asked a);
    }

    interface Test {
        boolean of(Asked a);
    }

    static final class Clause {
        String verb;
        Sum first;
        Sum second;
        int times = 1;
        Test test;
    }

    static final class Parser {
        static final Pattern TOKEN = Pattern.compile("[a-z]+|[0-9]+|[^ ]", Pattern.DOTALL);
        final List<String> words = new ArrayList<>();
        final List<Integer> places = new ArrayList<>();
        final boolean orders;
        int at = 0;
        int parts = 0;
        int depth = 0;

        Parser(String text, boolean orders) {
            this.orders = orders;
            Matcher m = TOKEN.matcher(text);
            while (m.find()) {
                words.add(m.group());
                places.add(m.start());
            }
            words.add("");
            places.add(text.length());
        }

        String now() {
            return words.get(at);
        }

        boolean take(String w) {
            if (!now().equals(w)) return false;
            at++;
            return true;
        }

        void must(String w) {
            if (!take(w)) throw fault();
        }

        Fault fault() {
            return new Fault(places.get(at));
        }

        List<Clause> all() {
            List<Clause> list = new ArrayList<>();
            do {
                if (list.size() == 12) throw fault();
                list.add(clause());
            } while (take(";"));
            if (!now().isEmpty()) throw fault();
            return list;
        }

        Clause clause() {
            Clause c = new Clause();
            c.verb = now();
            String verbs = orders ? "touch|coax|tempt|pass" : "needs|wants|shuts";
            if (!c.verb.matches(verbs)) throw fault();
            at++;
            if (!c.verb.matches("shuts|pass")) c.first = sum();
            if (c.verb.equals("tempt")) {
                must("to");
                c.second = sum();
            }
            if (orders && take("times")) c.times = number(1, 20);
            if (take("if")) c.test = test();
            return c;
        }

        int number(int least, int most) {
            String w = now();
            if (!w.matches("[0-9]+")) throw fault();
            BigInteger n = new BigInteger(w);
            if (n.compareTo(BigInteger.valueOf(least)) < 0 || n.compareTo(BigInteger.valueOf(most)) > 0) throw fault();
            at++;
            return n.intValue();
        }

        Test test() {
            Test left = both();
            while (take("or")) {
                Test a = left;
                Test b = both();
                left = x -> a.of(x) || b.of(x);
            }
            return left;
        }

        Test both() {
            Test left = plain();
            while (take("and")) {
                Test a = left;
                Test b = plain();
                left = x -> a.of(x) && b.of(x);
            }
            return left;
        }

        Test plain() {
            if (take("not")) {
                Test t = plain();
                return x -> !t.of(x);
            }
            if (now().equals("(")) {
                in();
                Test t = test();
                out(")");
                return t;
            }
            Sum a = sum();
            String sign = now();
            if (!sign.matches("[<>=]")) throw fault();
            at++;
            Sum b = sum();
            return x -> {
                int c = a.of(x).compareTo(b.of(x));
                return sign.equals("<") ? c < 0 : sign.equals(">") ? c > 0 : c == 0;
            };
        }

        void in() {
            if (depth == 8) throw fault();
            depth++;
            at++;
        }

        void out(String w) {
            must(w);
            depth--;
        }

        Sum sum() {
            Sum left = term();
            while (now().matches("[+]|-")) {
                boolean plus = words.get(at++).equals("+");
                Sum a = left;
                Sum b = term();
                left = x -> {
                    BigInteger p = a.of(x);
                    BigInteger q = b.of(x);
                    return bound(plus ? p.add(q) : p.subtract(q));
                };
            }
            return left;
        }

        Sum term() {
            Sum left = part();
            while (now().matches("[*/%]")) {
                String sign = words.get(at++);
                Sum a = left;
                Sum b = part();
                left = x -> {
                    BigInteger p = a.of(x);
                    BigInteger q = b.of(x);
                    if (sign.equals("*")) return bound(p.multiply(q));
                    if (q.signum() == 0) throw new Broken();
                    return bound(sign.equals("/") ? p.divide(q) : p.remainder(q));
                };
            }
            return left;
        }

        static BigInteger bound(BigInteger v) {
            if (v.abs().compareTo(BigInteger.valueOf(1_000_000_000)) > 0) throw new Broken();
            return v;
        }

        Sum part() {
            if (now().equals("[")) {
                in();
                Sum s = sum();
                out("]");
                return s;
            }
            String w = now();
            boolean word = w.matches(orders ? "minute|done|latest|all|want|still|is"
                : "who|want|shy|near|all|still|minute|hush|mood");
            if (parts == 50) throw fault();
            if (!word) {
                BigInteger n = BigInteger.valueOf(number(0, 1000));
                parts++;
                return x -> n;
            }
            parts++;
            at++;
            String asked = orders && w.matches("want|still|is") ? w + number(0, 7) : w;
            return x -> BigInteger.valueOf(x.ask(asked));
        }
    }

    World world = new World();
    World[] images = new World[2];
    World drawn = null;
    Deque<Object[]> past = new ArrayDeque<>();
    List<Integer> tape = new ArrayList<>();
    int[] refused = new int[7];
    int status = 0;
    int burrs = 0;
    int fault = -1;
    int stopped = -1;

    private int no(int why) {
        refused[-why]++;
        status = why;
        return why;
    }

    private int yes(int answer) {
        status = 0;
        return answer;
    }

    private static boolean in(int v, int least, int most) {
        return v >= least && v <= most;
    }

    private boolean is(int one) {
        return in(one, 0, world.hogs.size() - 1);
    }

    public int hedgehog(int want, int shy) {
        if (!in(want, 0, 9) || !in(shy, 0, 9)) return no(-1);
        if (world.hogs.size() == 8) return no(-5);
        Hog h = new Hog();
        h.want = want;
        h.shy = shy;
        world.hogs.add(h);
        past.clear();
        return yes(world.hogs.size() - 1);
    }

    public int watch(int one, int other, int is) {
        if (!in(is, 0, 1) || one == other) return no(-1);
        if (!is(one) || !is(other)) return no(-2);
        boolean[] w = world.hogs.get(one).watches;
        int was = w[other] ? 1 : 0;
        w[other] = is == 1;
        return yes(was);
    }

    static int near(World w, Hog h) {
        int n = 0;
        for (int i = 0; i < w.hogs.size(); i++) if (h.watches[i] && w.hogs.get(i).open) n++;
        return n;
    }

    static long word(World w, int one, String word) {
        Hog h = w.hogs.get(one);
        switch (word) {
            case "who": return one;
            case "want": return h.want;
            case "shy": return h.shy;
            case "near": return near(w, h);
            case "all": return w.open();
            case "still": return h.still;
            case "minute": return w.terms[0];
            case "hush": return w.terms[2];
            case "mood": return w.terms[3];
            default: throw new IllegalStateException(word);
        }
    }

    /** Null if it doesn't hold. */
    static Integer holds(World w, int one, Clause c) {
        try {
            Asked a = x -> word(w, one, x);
            if (c.test != null && !c.test.of(a)) return null;
            if (c.first == null) return 1;
            return Math.max(0, Math.min(9, c.first.of(a).intValueExact()));
        } catch (Broken b) {
            return null;
        }
    }

    static int last(World w, int one, String verb, int without) {
        int v = without;
        for (Clause c : w.law()) {
            Integer told = c.verb.equals(verb) ? holds(w, one, c) : null;
            if (told != null) v = told;
        }
        return v;
    }

    static int needs(World w, int one) {
        return last(w, one, "needs", w.hogs.get(one).want);
    }

    static int comes(World w, int one) {
        return last(w, one, "wants", w.hogs.get(one).want);
    }

    static int closes(World w, int one) {
        return last(w, one, "shuts", 0);
    }

    static World minute(World w, int held) {
        World n = w.copy();
        for (int i = 0; i < w.hogs.size(); i++) {
            Hog was = w.hogs.get(i);
            Hog h = n.hogs.get(i);
            h.open = was.open ? closes(w, i) == 0 : near(w, was) >= needs(w, i);
            if ((held >> i & 1) == 1) h.open = false;
            h.want = comes(w, i);
            h.still = Math.min(99, was.still + 1);
        }
        n.terms[0]++;
        return n;
    }

    public int of(int one, int what) {
        if (!is(one)) return -1;
        Hog h = world.hogs.get(one);
        int bits = 0;
        for (int i = 0; i < 8; i++) if (h.watches[i]) bits += 1 << i;
        switch (what) {
            case 0: return h.want;
            case 1: return h.shy;
            case 2: return bits;
            case 3: return h.open ? 1 : 0;
            case 4: return h.still;
            case 5: return needs(world, one);
            case 6: return comes(world, one);
            case 7: return closes(world, one);
            case 8: return minute(world, 0).hogs.get(one).open ? 1 : 0;
            default: return -1;
        }
    }

    public int terms(int what, int value) {
        if (!in(what, 0, 3) || !in(value, 0, new int[] {999, 10, 9, 9}[what])) return no(-1);
        int was = world.terms[what];
        world.terms[what] = value;
        past.clear();
        return yes(was);
    }

    public int feed(int a, int b, int c, int d, int e) {
        if (tape.size() > 380) return -1;
        for (int v : new int[] {a, b, c, d, e}) {
            tape.add(v >>> 24);
            tape.add(v >>> 16 & 255);
            tape.add(v >>> 8 & 255);
            tape.add(v & 255);
        }
        return tape.size();
    }

    public int end(int n) {
        if (!in(n, 0, tape.size())) return -1;
        tape = new ArrayList<>(tape.subList(0, n));
        return n;
    }

    public int row() {
        if (tape.isEmpty()) return no(-6);
        int came = 0;
        burrs = 0;
        while (!tape.isEmpty()) {
            int own = world.hogs.size();
            if (tape.size() >= 3 && own < 8 && tape.get(0) <= 9 && tape.get(1) <= 9 && tape.get(2) < 1 << own) {
                Hog h = new Hog();
                h.want = tape.get(0);
                h.shy = tape.get(1);
                for (int i = 0; i < own; i++) h.watches[i] = (tape.get(2) >> i & 1) == 1;
                world.hogs.add(h);
                came++;
            } else {
                burrs++;
            }
            tape = new ArrayList<>(tape.subList(Math.min(3, tape.size()), tape.size()));
        }
        past.clear();
        return yes(came);
    }

    public int burrs() {
        return burrs;
    }

    private List<Clause> read(boolean orders) {
        StringBuilder b = new StringBuilder();
        for (int v : tape) b.append((char) v);
        tape.clear();
        try {
            fault = -1;
            return new Parser(b.toString(), orders).all();
        } catch (Fault f) {
            fault = f.place;
            return null;
        }
    }

    public int law() {
        if (world.laws.size() == 6) {
            tape.clear();
            return no(-5);
        }
        List<Clause> l = read(false);
        if (l == null) return no(-6);
        world.laws.add(l);
        return yes(world.laws.size() - 1);
    }

    public int orders() {
        stopped = -1;
        List<Clause> l = read(true);
        if (l == null) return no(-6);
        World was = world.copy();
        Deque<Object[]> pastWas = new ArrayDeque<>(past);
        int[] refusedWas = refused.clone();
        int[] done = {0, -1};
        for (int i = 0; i < l.size(); i++) {
            for (int t = 0; t < l.get(i).times; t++) {
                try {
                    once(l.get(i), done);
                } catch (Stop s) {
                    world = was;
                    past = pastWas;
                    refused = refusedWas;
                    stopped = i;
                    return no(-3);
                }
            }
        }
        return yes(done[0]);
    }

    private long orderWord(String w, int[] done) {
        switch (w) {
            case "minute": return world.terms[0];
            case "done": return done[0];
            case "latest": return done[1];
            case "all": return world.open();
            default: break;
        }
        int one = w.charAt(w.length() - 1) - '0';
        if (!is(one)) return -1;
        Hog h = world.hogs.get(one);
        return w.startsWith("want") ? h.want : w.startsWith("still") ? h.still : h.open ? 1 : 0;
    }

    private void once(Clause c, int[] done) {
        Asked a = w -> orderWord(w, done);
        try {
            if (c.test != null && !c.test.of(a)) return;
        } catch (Broken b) {
            return;
        }
        int first = 0;
        int second = 0;
        try {
            first = c.first == null ? 0 : c.first.of(a).intValueExact();
            second = c.second == null ? 0 : c.second.of(a).intValueExact();
        } catch (Broken b) {
            throw new Stop();
        }
        int told;
        switch (c.verb) {
            case "touch": told = touch(first); break;
            case "coax": told = coax(first); break;
            case "tempt": told = tempt(first, second); break;
            default: told = pass(); break;
        }
        if (status != 0) throw new Stop();
        done[0]++;
        if (c.verb.equals("pass")) done[1] = told;
    }

    public int fault() {
        return fault;
    }

    public int stopped() {
        return stopped;
    }

    public int force(int law) {
        if (!in(law, -1, world.laws.size() - 1)) return no(-2);
        int was = world.force;
        world.force = law;
        return yes(was);
    }

    private void keep(int kind) {
        past.addLast(new Object[] {kind, world.copy()});
        if (past.size() > 16) past.removeFirst();
    }

    public int touch(int one) {
        if (!is(one)) return no(-2);
        keep(0);
        Hog h = world.hogs.get(one);
        boolean was = h.open;
        h.open = false;
        h.still = 0;
        return yes(was ? 1 : 0);
    }

    public int coax(int one) {
        if (!is(one)) return no(-2);
        if (world.hogs.get(one).open) return no(-3);
        keep(1);
        world.hogs.get(one).open = true;
        return yes(world.open());
    }

    public int tempt(int one, int want) {
        if (!in(want, 0, 9)) return no(-1);
        if (!is(one)) return no(-2);
        Hog h = world.hogs.get(one);
        int was = h.want;
        if (was == want) return no(-3);
        keep(2);
        h.want = want;
        return yes(was);
    }

    public int pass() {
        if (world.terms[0] == 999) return no(-3);
        keep(3);
        world = minute(world, 0);
        return yes(world.open());
    }

    public int undo() {
        if (past.isEmpty()) return no(-3);
        Object[] p = past.removeLast();
        World was = (World) p[1];
        for (int i = 0; i < world.hogs.size(); i++) {
            world.hogs.get(i).open = was.hogs.get(i).open;
            world.hogs.get(i).want = was.hogs.get(i).want;
            world.hogs.get(i).still = was.hogs.get(i).still;
        }
        world.terms[0] = was.terms[0];
        return yes((Integer) p[0]);
    }

    /** Who is open at each of the minutes 0 .. 60. */
    static int[] course(World start, int held) {
        int[] c = new int[61];
        World w = start;
        for (int n = 0; n <= 60; n++) {
            c[n] = w.bits();
            if (n < 60) w = minute(w, held);
        }
        return c;
    }

    private static World with(World w, int open, int shut) {
        World n = w.copy();
        for (int i = 0; i < n.hogs.size(); i++) {
            if ((open >> i & 1) == 1) n.hogs.get(i).open = true;
            if ((shut >> i & 1) == 1) n.hogs.get(i).open = false;
        }
        return n;
    }

    public int later(int n) {
        return in(n, 0, 60) ? course(world, 0)[n] : -1;
    }

    private static int first(int[] c, int from, ToIntFunction<Integer> good) {
        for (int n = from; n <= 60; n++) if (good.applyAsInt(c[n]) == 1) return n;
        return -1;
    }

    public int opens(int one) {
        return is(one) ? first(course(world, 0), 0, b -> b >> one & 1) : -1;
    }

    public int together() {
        int all = everyone();
        return first(course(world, 0), 0, b -> b == all ? 1 : 0);
    }

    public int again() {
        int now = world.bits();
        return first(course(world, 0), 1, b -> b == now ? 1 : 0);
    }

    private int everyone() {
        return (1 << world.hogs.size()) - 1;
    }

    private interface Good {
        boolean is(int set);
    }

    /** The fewest, then the lowest, of the subsets of a set. */
    private static int fewest(int among, int what, Good good) {
        if (!in(what, 0, 1)) return -1;
        List<Integer> sets = new ArrayList<>();
        for (int s = 0; s < 256; s++) if ((s & among) == s) sets.add(s);
        sets.sort((a, b) -> Integer.bitCount(a) != Integer.bitCount(b)
            ? Integer.compare(Integer.bitCount(a), Integer.bitCount(b)) : Integer.compare(a, b));
        for (int s : sets) if (good.is(s)) return what == 0 ? Integer.bitCount(s) : s;
        return -1;
    }

    public int seeds(int what) {
        int all = everyone();
        return fewest(all & ~world.bits(), what, s -> first(course(with(world, s, 0), 0), 0, b -> b == all ? 1 : 0) >= 0);
    }

    public int seedsFor(int one, int what) {
        if (!is(one)) return -1;
        return fewest(everyone() & ~world.bits() & ~(1 << one), what,
            s -> first(course(with(world, s, 0), 0), 0, b -> b >> one & 1) >= 0);
    }

    public int spread(int one) {
        if (!is(one)) return -1;
        return course(with(world, 1 << one, 0), 0)[60] & ~course(with(world, 0, 1 << one), 0)[60];
    }

    public int held(int one, int what) {
        if (!is(one) || world.hogs.get(one).open) return -1;
        return fewest(everyone() & ~(1 << one), what,
            s -> first(course(with(world, 0, s), s), 0, b -> b >> one & 1) < 0);
    }

    /** All rows from one to another without a repeat; the shortest, then the first. */
    private List<Integer> row(int from, int to) {
        List<Integer> best = null;
        Deque<List<Integer>> open = new ArrayDeque<>();
        open.add(List.of(from));
        while (!open.isEmpty()) {
            List<Integer> p = open.removeFirst();
            int at = p.get(p.size() - 1);
            if (best != null && p.size() > best.size()) break;
            if (at == to) {
                if (best == null || less(p, best)) best = p;
                continue;
            }
            for (int i = 0; i < world.hogs.size(); i++) {
                if (world.hogs.get(i).watches[at] && !p.contains(i)) {
                    List<Integer> q = new ArrayList<>(p);
                    q.add(i);
                    open.addLast(q);
                }
            }
        }
        return best == null ? null : best.subList(1, best.size());
    }

    private static boolean less(List<Integer> a, List<Integer> b) {
        for (int i = 0; i < a.size(); i++) if (!a.get(i).equals(b.get(i))) return a.get(i) < b.get(i);
        return false;
    }

    public int chain(int from, int to, int i) {
        if (!is(from) || !is(to)) return -1;
        List<Integer> r = row(from, to);
        if (r == null) return -1;
        if (i == -1) return r.size();
        return in(i, 0, r.size() - 1) ? r.get(i) : -1;
    }

    private boolean[][] reach() {
        int n = world.hogs.size();
        boolean[][] r = new boolean[n][n];
        for (int i = 0; i < n; i++) for (int j = 0; j < n; j++) r[i][j] = i == j || world.hogs.get(j).watches[i];
        for (int k = 0; k < n; k++) for (int i = 0; i < n; i++) for (int j = 0; j < n; j++) r[i][j] |= r[i][k] && r[k][j];
        return r;
    }

    public int knots() {
        boolean[][] r = reach();
        int n = 0;
        for (int i = 0; i < r.length; i++) {
            boolean first = true;
            for (int j = 0; j < i; j++) if (r[i][j] && r[j][i]) first = false;
            if (first) n++;
        }
        return n;
    }

    public int heads(int what) {
        boolean[][] r = reach();
        return fewest(everyone(), what, s -> {
            for (int j = 0; j < r.length; j++) {
                boolean got = false;
                for (int i = 0; i < r.length; i++) got |= (s >> i & 1) == 1 && r[i][j];
                if (!got) return false;
            }
            return true;
        });
    }

    public int seen(int n, int is) {
        if (!in(n, 0, 60) || !in(is, 0, 1)) return no(-1);
        if (world.seen.size() == 6) return no(-5);
        world.seen.add(new int[] {n, is});
        return yes(world.seen.size());
    }

    public int forget() {
        int was = world.seen.size();
        world.seen.clear();
        return was;
    }

    public int canBe() {
        int[] c = course(world, 0);
        int b = 0;
        for (int i = 0; i < world.hogs.size(); i++) {
            boolean fits = true;
            for (int[] s : world.seen) fits &= (c[s[0]] >> i & 1) == s[1];
            if (fits) b |= 1 << i;
        }
        return b;
    }

    public int look(int what) {
        int can = canBe();
        if (can == 0 || !in(what, 0, 1)) return -1;
        int[] c = course(world, 0);
        int best = 99;
        int at = -1;
        for (int n = 0; n <= 60; n++) {
            int open = Integer.bitCount(can & c[n]);
            int more = Math.max(open, Integer.bitCount(can) - open);
            if (more < best) {
                best = more;
                at = n;
            }
        }
        return what == 0 ? at : best;
    }

    public long few(int k, int n) {
        if (!in(k, 1, 20) || !in(n, 0, 99)) return -1;
        long[] p = new long[n + 1];
        p[0] = 1_000_000_000_000L;
        for (int i = 0; i < n; i++) {
            long[] q = new long[n + 1];
            for (int j = 0; j <= i; j++) {
                q[j] += p[j] * (10 - world.terms[1]) / 10;
                q[j + 1] += p[j] * world.terms[1] / 10;
            }
            p = q;
        }
        return Arrays.stream(p, 0, Math.min(k, n + 1)).sum();
    }

    public int compare(int law) {
        if (!in(law, -1, world.laws.size() - 1)) return -1;
        World w = world.copy();
        w.force = law;
        return minute(w, 0).open();
    }

    public int councils(int seed, int n) {
        if (!in(seed, 0, 1_000_000) || !in(n, 1, 60)) return no(-1);
        if (world.hogs.isEmpty()) return no(-3);
        World w = world.copy();
        long[] s = {seed};
        for (int i = 0; i < n; i++) {
            if (w.terms[0] == 999) break;
            Hog h = w.hogs.get(draw(s, w.hogs.size()));
            int want = draw(s, 10);
            int what = draw(s, 4);
            if (what == 0) {
                h.open = false;
                h.still = 0;
            }
            if (what == 1) h.open = true;
            if (what == 2) h.want = want;
            w = minute(w, 0);
        }
        drawn = w;
        return yes(w.bits());
    }

    private static int draw(long[] s, int m) {
        s[0] = (s[0] * 1103 + 12345) % 1_000_003;
        return (int) (s[0] % m);
    }

    public int drawn(int one, int what) {
        if (drawn == null || !in(one, 0, drawn.hogs.size() - 1)) return -1;
        Hog h = drawn.hogs.get(one);
        return what == 0 ? h.want : what == 1 ? (h.open ? 1 : 0) : what == 2 ? h.still : -1;
    }

    public int image(int k) {
        if (!in(k, 0, 1)) return no(-1);
        images[k] = world.copy();
        return yes(0);
    }

    public int back(int k) {
        if (!in(k, 0, 1)) return no(-1);
        if (images[k] == null) return no(-2);
        world = images[k].copy();
        past.clear();
        return yes(0);
    }

    public int count(int what) {
        switch (what) {
            case 0: return world.hogs.size();
            case 1: return world.open();
            case 2: return world.seen.size();
            case 3: return world.laws.size();
            case 4: return past.size();
            case 5: return tape.size();
            case 6: return refused[1];
            case 7: return refused[2];
            case 8: return refused[3];
            case 9: return refused[5];
            case 10: return refused[6];
            case 11: return world.force;
            case 12: case 13: case 14: case 15: return world.terms[what - 12];
            default: return -1;
        }
    }

    public int status() {
        return status;
    }
}
