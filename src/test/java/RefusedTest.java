import java.util.ArrayList;
import java.util.List;

/**
 * What each REFUSED call answers, counts and leaves as it was, and what no call changes that only asks: two councils
 * are made alike, one of them is asked, and then both answer alike to all that can be asked.
 */
public final class RefusedTest {
    private static final Due due = new Due();
    private static final int MOST = Integer.MAX_VALUE;
    private static final int LEAST = Integer.MIN_VALUE;
    private static final String ON_TAPE = "touch 0;touch 1";
    private static final int[] REFUSALS = {-1, -2, -3, -5, -6};

    private interface Made {
        HedgeCouncil make();
    }

    private interface Call {
        long on(HedgeCouncil x);
    }

    private RefusedTest() {
    }

    public static void main(String[] args) {
        hedgehogs();
        acts();
        texts();
        orders();
        others();
        answersNone();
        asking();
        due.close();
    }

    /** Four hedgehogs, all that can be kept kept, no room filled. */
    private static HedgeCouncil some() {
        HedgeCouncil x = new HedgeCouncil();
        x.hedgehog(1, 2);
        x.hedgehog(2, 5);
        x.watch(1, 0, 1);
        Due.law(x, "needs want if shy > 3;wants [want + 1] % 5;shuts if still = 7");
        Due.law(x, "needs 5");
        x.seen(3, 1);
        x.coax(1);
        x.image(0);
        Due.row(x, 0, 9, 3, 10, 10, 10, 7, 7, 7, 1, 1);
        x.watch(0, 3, 1);
        x.force(0);
        int[] terms = {40, 3, 4, 5};
        for (int what = 0; what < 4; what++) x.terms(what, terms[what]);
        x.seen(0, 0);
        x.councils(77, 5);
        Due.orders(x, "pass;pass;touch 9");
        Due.law(x, "needs what");
        x.pass();
        x.touch(0);
        x.tempt(2, 8);
        x.coax(3);
        x.pass();
        return Due.tape(x, ON_TAPE);
    }

    /** Eight hedgehogs, six laws, six that were seen, sixteen that can be undone, the last minute. */
    private static HedgeCouncil full() {
        HedgeCouncil x = Due.line(8);
        for (int i = 0; i < 6; i++) Due.law(x, "needs " + i);
        for (int i = 0; i < 6; i++) x.seen(i, 0);
        x.force(3);
        x.image(0);
        x.terms(0, 997);
        for (int h = 0; h < 8; h++) x.coax(h);
        for (int h = 0; h < 4; h++) x.touch(h);
        for (int h = 0; h < 5; h++) x.tempt(h, 9);
        x.pass();
        x.pass();
        x.councils(5, 5);
        return Due.tape(x, ON_TAPE);
    }

    private static HedgeCouncil empty() {
        return Due.tape(new HedgeCouncil(), ON_TAPE);
    }

    /** Nothing can be undone, nothing is on the tape. */
    private static HedgeCouncil bare() {
        HedgeCouncil x = some();
        x.terms(3, 6);
        x.end(0);
        return x;
    }

    /** All answers but those of status(), fault(), stopped() and of the refusals that were counted. */
    private static List<Long> answers(HedgeCouncil x) {
        List<Long> told = new ArrayList<>();
        now(x, told);
        told.add((long) x.burrs());
        for (int h = 0; h < 8; h++) for (int what = 0; what < 3; what++) told.add((long) x.drawn(h, what));
        told.add((long) x.orders());
        told.add((long) x.fault());
        for (int i = 0; i < 20; i++) {
            told.add((long) x.undo());
            told.add((long) x.later(0));
            told.add((long) x.count(12));
            told.add((long) x.of(0, 0));
            told.add((long) x.of(0, 4));
        }
        for (int k = 0; k < 2; k++) {
            told.add((long) x.back(k));
            told.add((long) x.count(0) * 100 + x.count(3) * 10 + x.count(11));
            told.add((long) x.canBe());
            told.add((long) x.of(1, 0) * 100 + x.of(1, 2));
        }
        return told;
    }

    private static void now(HedgeCouncil x, List<Long> told) {
        for (int what = 0; what <= 5; what++) told.add((long) x.count(what));
        for (int what = 11; what <= 15; what++) told.add((long) x.count(what));
        for (int h = 0; h < 8; h++) for (int what = 0; what < 8; what++) told.add((long) x.of(h, what));
        told.add((long) x.later(0));
        told.add((long) x.later(1));
        told.add((long) x.later(2));
        told.add((long) x.later(60));
        told.add((long) x.canBe());
        told.add(x.few(2, 9));
        for (int law = 0; law < 6; law++) told.add((long) x.compare(law));
    }

    private static int place(int why) {
        for (int i = 0; i < REFUSALS.length; i++) if (REFUSALS[i] == why) return i;
        return -1;
    }

    /** A call is refused: fault() and stopped() are due behind it, and all else is as with another call, or with none. */
    private static void refused(String name, Made made, Call call, int why, Call instead, int fault, int stopped) {
        HedgeCouncil x = made.make();
        HedgeCouncil y = made.make();
        int[] counts = new int[5];
        for (int i = 0; i < 5; i++) counts[i] = x.count(6 + i);
        due.is(name, call.on(x), why);
        due.is(name + ": status()", x.status(), why);
        for (int i = 0; i < 5; i++) due.is(name + ": count(" + (6 + i) + ")", x.count(6 + i), counts[i] + (i == place(why) ? 1 : 0));
        due.is(name + ": fault()", x.fault(), fault);
        due.is(name + ": stopped()", x.stopped(), stopped);
        instead.on(y);
        due.isSo(name + ": all is as it was", answers(x).equals(answers(y)));
    }

    private static void refused(String name, Made made, Call call, int why) {
        HedgeCouncil x = made.make();
        refused(name, made, call, why, y -> 0, x.fault(), x.stopped());
    }

    private static void hedgehogs() {
        due.sentence("2, 3, 5", "what a REFUSED call answers and leaves as it was");
        int[] wrong = {-1, 10, LEAST, MOST};
        for (int w : wrong) {
            refused("hedgehog(" + w + ", 0)", RefusedTest::some, x -> x.hedgehog(w, 0), -1);
            refused("hedgehog(0, " + w + ")", RefusedTest::some, x -> x.hedgehog(0, w), -1);
            refused("hedgehog(0, " + w + ") without room", RefusedTest::full, x -> x.hedgehog(0, w), -1);
        }
        refused("hedgehog(0, 0) without room", RefusedTest::full, x -> x.hedgehog(0, 0), -5);
        refused("hedgehog(9, 9) without room", RefusedTest::full, x -> x.hedgehog(9, 9), -5);
        for (int is : new int[] {-1, 2, LEAST, MOST}) refused("watch(0, 1, " + is + ")", RefusedTest::some, x -> x.watch(0, 1, is), -1);
        for (int one : new int[] {0, 3, 4, -1}) refused("watch(itself)", RefusedTest::some, x -> x.watch(one, one, 1), -1);
        for (int one : new int[] {-1, 4, 8, 32, LEAST, MOST}) {
            refused("watch(" + one + ", 0, 1)", RefusedTest::some, x -> x.watch(one, 0, 1), -2);
            refused("watch(0, " + one + ", 1)", RefusedTest::some, x -> x.watch(0, one, 1), -2);
            refused("watch(0, " + one + ", 0)", RefusedTest::some, x -> x.watch(0, one, 0), -2);
        }
        refused("watch(7, 8, 1)", RefusedTest::full, x -> x.watch(7, 8, 1), -2);
        int[] most = {999, 10, 9, 9};
        for (int what = 0; what < 4; what++) {
            int t = what;
            for (int v : new int[] {-1, most[what] + 1, LEAST, MOST}) {
                refused("terms(" + t + ", " + v + ")", RefusedTest::some, x -> x.terms(t, v), -1);
            }
        }
        for (int what : new int[] {-1, 4, LEAST, MOST}) refused("terms(" + what + ", 0)", RefusedTest::some, x -> x.terms(what, 0), -1);
    }

    private static void acts() {
        due.sentence("14 to 19", "what a REFUSED call answers and leaves as it was");
        for (int one : new int[] {-1, 4, 8, 32, LEAST, MOST}) {
            refused("touch(" + one + ")", RefusedTest::some, x -> x.touch(one), -2);
            refused("coax(" + one + ")", RefusedTest::some, x -> x.coax(one), -2);
            refused("tempt(" + one + ", 3)", RefusedTest::some, x -> x.tempt(one, 3), -2);
            refused("tempt(" + one + ", 10)", RefusedTest::some, x -> x.tempt(one, 10), -1);
        }
        for (int law : new int[] {-2, 2, 6, LEAST, MOST}) refused("force(" + law + ")", RefusedTest::some, x -> x.force(law), -2);
        refused("force(6)", RefusedTest::full, x -> x.force(6), -2);
        refused("force(0) without laws", RefusedTest::empty, x -> x.force(0), -2);
        refused("touch(0) without hedgehogs", RefusedTest::empty, x -> x.touch(0), -2);
        refused("coax(0) without hedgehogs", RefusedTest::empty, x -> x.coax(0), -2);
        refused("tempt(0, 0) without hedgehogs", RefusedTest::empty, x -> x.tempt(0, 0), -2);
        refused("touch(8)", RefusedTest::full, x -> x.touch(8), -2);
        refused("coax(3), which is open", RefusedTest::some, x -> x.coax(3), -3);
        refused("coax(7), which is open", RefusedTest::full, x -> x.coax(7), -3);
        for (int want : new int[] {-1, 10, LEAST, MOST}) refused("tempt(0, " + want + ")", RefusedTest::some, x -> x.tempt(0, want), -1);
        for (int h = 0; h < 8; h++) {
            int one = h;
            refused("tempt to what it wants", RefusedTest::full, x -> x.tempt(one, x.of(one, 0)), -3);
        }
        refused("pass() at 999", RefusedTest::full, HedgeCouncil::pass, -3);
        refused("undo() with nothing", RefusedTest::bare, HedgeCouncil::undo, -3);
        refused("undo() with nothing", RefusedTest::empty, HedgeCouncil::undo, -3);
    }

    private static void texts() {
        due.sentence("8, 10, 11", "what a REFUSED call answers and leaves as it was");
        refused("row() of nothing", RefusedTest::bare, HedgeCouncil::row, -6);
        int stopped = some().stopped();
        due.is("stopped()", stopped, 2);
        due.is("fault()", some().fault(), 6);
        Call emptied = y -> y.end(0);
        refused("law() without room", RefusedTest::full, HedgeCouncil::law, -5, emptied, full().fault(), full().stopped());
        refused("law() of nothing", RefusedTest::bare, HedgeCouncil::law, -6, emptied, 0, stopped);
        refused("law() of orders", RefusedTest::some, HedgeCouncil::law, -6, emptied, 0, stopped);
        String[] laws = {" ", "shuts;", "needs 1;shuts;wants 7;needs", "needs 1001", "shuts if (1=1", "needs [[[[[[[[[1"};
        int[] faults = {1, 6, 27, 6, 13, 14};
        for (int i = 0; i < laws.length; i++) {
            String text = laws[i];
            refused("law " + text, RefusedTest::some, x -> Due.law(wiped(x), text), -6, emptied, faults[i], stopped);
        }
        refused("orders() of nothing", RefusedTest::bare, HedgeCouncil::orders, -6, emptied, 0, -1);
        String[] orders = {" ", "pass;", "coax 0;tempt 1 to 9;pass;what", "touch 9;what", "pass times 21", "touch want 8"};
        int[] places = {1, 5, 25, 8, 11, 11};
        for (int i = 0; i < orders.length; i++) {
            String text = orders[i];
            refused("orders " + text, RefusedTest::some, x -> Due.orders(wiped(x), text), -6, emptied, places[i], -1);
        }
    }

    private static HedgeCouncil wiped(HedgeCouncil x) {
        x.end(0);
        return x;
    }

    private static void orders() {
        due.sentence("11", "-3 one can't be: all is as it was");
        Call emptied = y -> y.end(0);
        String ahead = "pass;touch 3;tempt 1 to 9;coax 0;pass times 20;touch 2 times 20;";
        String[] last = {"touch 4", "touch 0-1", "touch 1000*1000*1000", "touch 1/0", "coax 4", "coax 0 times 2", "coax 1/0", "tempt 4 to 1",
            "tempt 0 to 10", "tempt 0 to 0-1", "tempt 0 to want 0", "tempt 1/0 to 1", "tempt 0 to 1/0", "touch latest + 100"};
        for (String order : last) {
            refused("orders .. " + order, RefusedTest::some, x -> Due.orders(wiped(x), ahead + order), -3, emptied, -1, 6);
            refused("orders .. " + order + " .. more", RefusedTest::some, x -> Due.orders(wiped(x), "touch 0;" + order + ";pass"), -3,
                emptied, -1, 1);
        }
        refused("orders pass at 999", RefusedTest::full, x -> Due.orders(wiped(x), "touch 7 times 20;pass"), -3, emptied, -1, 1);
        refused("orders touch without hedgehogs", RefusedTest::empty, x -> Due.orders(wiped(x), "pass times 3;touch 0"), -3, emptied, -1, 1);
        refused("orders() as they are on the tape", RefusedTest::empty, HedgeCouncil::orders, -3, emptied, -1, 0);
    }

    private static void others() {
        due.sentence("31, 37, 39, 40", "what a REFUSED call answers and leaves as it was");
        for (int n : new int[] {-1, 61, LEAST, MOST}) {
            refused("seen(" + n + ", 0)", RefusedTest::some, x -> x.seen(n, 0), -1);
            refused("seen(" + n + ", 0) without room", RefusedTest::full, x -> x.seen(n, 0), -1);
        }
        for (int is : new int[] {-1, 2, LEAST, MOST}) refused("seen(0, " + is + ")", RefusedTest::some, x -> x.seen(0, is), -1);
        refused("seen(0, 1) without room", RefusedTest::full, x -> x.seen(0, 1), -5);
        refused("seen(60, 0) without room", RefusedTest::full, x -> x.seen(60, 0), -5);
        for (int seed : new int[] {-1, 1_000_001, LEAST, MOST}) {
            refused("councils(" + seed + ", 1)", RefusedTest::some, x -> x.councils(seed, 1), -1);
            refused("councils(" + seed + ", 1) without hedgehogs", RefusedTest::empty, x -> x.councils(seed, 1), -1);
        }
        for (int n : new int[] {-1, 0, 61, LEAST, MOST}) {
            refused("councils(0, " + n + ")", RefusedTest::some, x -> x.councils(0, n), -1);
            refused("councils(0, " + n + ") without hedgehogs", RefusedTest::empty, x -> x.councils(0, n), -1);
        }
        refused("councils(0, 1) without hedgehogs", RefusedTest::empty, x -> x.councils(0, 1), -3);
        for (int k : new int[] {-1, 2, LEAST, MOST}) {
            refused("image(" + k + ")", RefusedTest::some, x -> x.image(k), -1);
            refused("back(" + k + ")", RefusedTest::some, x -> x.back(k), -1);
        }
        refused("back(1), which was not kept", RefusedTest::some, x -> x.back(1), -2);
        refused("back(0), which was not kept", RefusedTest::empty, x -> x.back(0), -2);
    }

    /** A call that is no refusal leaves all as it was, the refusals, status(), fault() and stopped(), too. */
    private static void leaves(String name, Made made, Call call) {
        HedgeCouncil x = made.make();
        HedgeCouncil y = made.make();
        call.on(x);
        for (int i = 6; i <= 10; i++) due.is(name + ": count(" + i + ")", x.count(i), y.count(i));
        due.is(name + ": status()", x.status(), y.status());
        due.is(name + ": fault()", x.fault(), y.fault());
        due.is(name + ": stopped()", x.stopped(), y.stopped());
        due.isSo(name + ": all is as it was", answers(x).equals(answers(y)));
    }

    private static HedgeCouncil fullTape(int bytes) {
        HedgeCouncil x = some();
        for (int i = 0; i < 20; i++) x.feed(-1, -1, -1, -1, -1);
        x.end(ON_TAPE.length());
        for (int i = 0; i < 20 && x.count(5) <= 380; i++) x.feed(0x20202020, 0x20202020, 0x20202020, 0x20202020, 0x20202020);
        x.end(bytes);
        return x;
    }

    private static void answersNone() {
        due.sentence("6, 7", "NONE: all is as it was");
        due.is("395 bytes", fullTape(395).count(5), 395);
        leaves("feed() of 415", () -> fullTape(395), x -> x.feed(-1, -1, -1, -1, -1));
        leaves("feed() of 401", () -> fullTape(381), x -> x.feed(-1, -1, -1, -1, -1));
        for (int n : new int[] {-1, 16, 400, 401, LEAST, MOST}) leaves("end(" + n + ")", RefusedTest::some, x -> x.end(n));
        leaves("end(all)", RefusedTest::some, x -> x.end(15));
    }

    private static void asking() {
        due.sentence("4, 9, 12, 13, 20 to 30, 33 to 36, 38, 41, 42", "what is only asked is left as it was");
        for (int which = 0; which < 2; which++) {
            Made made = which == 0 ? RefusedTest::some : RefusedTest::full;
            int[] some = {-1, 0, 1, 3, 7, 8, 60, 61, LEAST, MOST};
            leaves("of", made, x -> sum(some, a -> sum(some, b -> x.of(a, b))));
            leaves("later", made, x -> sum(some, x::later));
            leaves("opens", made, x -> sum(some, x::opens));
            leaves("together, again, knots, canBe", made, x -> x.together() + x.again() + x.knots() + x.canBe());
            leaves("seeds, heads, look", made, x -> sum(some, x::seeds) + sum(some, x::heads) + sum(some, x::look));
            leaves("seedsFor", made, x -> sum(some, a -> x.seedsFor(a, 0) + x.seedsFor(a, 1) + x.seedsFor(0, a)));
            leaves("spread", made, x -> sum(some, x::spread));
            leaves("held", made, x -> sum(some, a -> x.held(a, 0) + x.held(a, 1) + x.held(0, a)));
            leaves("chain", made, x -> sum(some, a -> x.chain(0, a, -1) + x.chain(a, 3, 0) + x.chain(0, 3, a)));
            leaves("few", made, x -> sum(some, a -> (int) (x.few(a, 9) + x.few(3, a))));
            leaves("compare", made, x -> sum(some, x::compare));
            leaves("drawn", made, x -> sum(some, a -> x.drawn(a, 0) + x.drawn(0, a)));
            leaves("count", made, x -> sum(some, x::count));
            leaves("burrs, fault, stopped, status", made, x -> x.burrs() + x.fault() + x.stopped() + x.status());
        }
    }

    private interface Ask {
        long of(int number);
    }

    private static long sum(int[] numbers, Ask ask) {
        long all = 0;
        for (int n : numbers) all += ask.of(n);
        return all;
    }
}
