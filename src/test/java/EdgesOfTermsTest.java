/** Each sentence of the document's Terms I, III and IV that names a boundary case, with a test of its own. */
public final class EdgesOfTermsTest {
    private static final Due due = new Due();
    private static final int MOST = Integer.MAX_VALUE;
    private static final int LEAST = Integer.MIN_VALUE;

    private EdgesOfTermsTest() {
    }

    public static void main(String[] args) {
        calls();
        hedgehogs();
        wants();
        shyness();
        atFirst();
        still();
        seen();
        terms();
        bits();
        orderOfRefusals();
        touching();
        coaxing();
        opening();
        shutting();
        asItWasAhead();
        lastMinute();
        onPaper();
        opens();
        together();
        again();
        seeds();
        seedsForOne();
        spread();
        held();
        chains();
        knots();
        heads();
        canBe();
        look();
        few();
        compared();
        draws();
        councilsEnd();
        rows();
        images();
        due.close();
    }

    private static void calls() {
        due.sentence("What it is", "An object is used for at most 512 calls after it has been made");
        HedgeCouncil x = new HedgeCouncil();
        for (int i = 1; i <= 8; i++) due.is("hedgehog", x.hedgehog(9, 9), i - 1);
        for (int i = 9; i <= 510; i++) due.is("call " + i, x.pass(), 0);
        due.is("call 511", x.count(12), 502);
        due.is("call 512", x.undo(), 3);
        HedgeCouncil refused = new HedgeCouncil();
        for (int i = 1; i <= 511; i++) due.is("call " + i, refused.undo(), -3);
        due.is("call 512", refused.count(8), 511);
        HedgeCouncil fed = new HedgeCouncil();
        for (int i = 1; i <= 510; i++) due.is("call " + i, i % 2 == 1 ? fed.feed(-1, -1, -1, -1, -1) : fed.law(), i % 2 == 1 ? 20 : -6);
        due.is("call 511", fed.fault(), 0);
        due.is("call 512", fed.count(10), 255);
        HedgeCouncil other = Due.council(1, 1);
        due.is("one object is none of another's", other.count(8) + other.count(10) + other.count(12), 0);
    }

    private static void hedgehogs() {
        due.sentence("I", "HEDGEHOGS 0 .. 7 (8 at most)");
        HedgeCouncil x = new HedgeCouncil();
        for (int i = 0; i < 8; i++) due.is("hedgehog " + i, x.hedgehog(1, 0), i);
        due.is("the last is there", x.of(7, 0), 1);
        due.is("a ninth", x.hedgehog(1, 0), -5);
        due.is("count(0)", x.count(0), 8);
        due.is("one that is not there", x.of(8, 0), -1);
        HedgeCouncil y = Due.council(7, 1);
        due.is("an eighth and a ninth by a row", Due.row(y, 1, 0, 127, 1, 0, 0), 1);
        due.is("the ninth is a burr", y.burrs(), 1);
        due.is("count(0)", y.count(0), 8);
        due.is("the eighth", y.of(7, 2), 127);
        HedgeCouncil z = Due.council(8, 1);
        for (int i = 0; i < 8; i++) for (int j = 0; j < 8; j++) if (i != j) z.watch(i, j, 1);
        due.is("the first watches all others", z.of(0, 2), 254);
        due.is("the last watches all others", z.of(7, 2), 127);
        z.coax(7);
        due.is("all see the last one", z.pass(), 8);
    }

    private static void wants() {
        due.sentence("I", "WANT 0 .. 9");
        HedgeCouncil x = new HedgeCouncil();
        due.is("0", x.hedgehog(0, 5), 0);
        due.is("9", x.hedgehog(9, 5), 1);
        due.is("-1", x.hedgehog(-1, 5), -1);
        due.is("10", x.hedgehog(10, 5), -1);
        due.is("256", x.hedgehog(256, 5), -1);
        due.is("the least number", x.hedgehog(LEAST, 5), -1);
        due.is("the greatest number", x.hedgehog(MOST, 5), -1);
        due.is("wants 0", x.of(0, 0), 0);
        due.is("wants 9", x.of(1, 0), 9);
        due.is("to 9", x.tempt(0, 9), 0);
        due.is("to 0", x.tempt(1, 0), 9);
        due.is("to -1", x.tempt(0, -1), -1);
        due.is("to 10", x.tempt(0, 10), -1);
        due.is("by a row", Due.row(x, 9, 0, 0, 10, 0, 0, 0, 0, 0, 128, 0, 0, 255, 0, 0), 2);
        due.is("by a row", x.of(2, 0), 9);
        due.is("by a row", x.of(3, 0), 0);
        due.is("count(0)", x.count(0), 4);
    }

    private static void shyness() {
        due.sentence("I", "SHY 0 .. 9");
        HedgeCouncil x = new HedgeCouncil();
        due.is("0", x.hedgehog(5, 0), 0);
        due.is("9", x.hedgehog(5, 9), 1);
        due.is("-1", x.hedgehog(5, -1), -1);
        due.is("10", x.hedgehog(5, 10), -1);
        due.is("256", x.hedgehog(5, 256), -1);
        due.is("the least number", x.hedgehog(5, LEAST), -1);
        due.is("the greatest number", x.hedgehog(5, MOST), -1);
        due.is("shy 0", x.of(0, 1), 0);
        due.is("shy 9", x.of(1, 1), 9);
        due.is("by a row", Due.row(x, 0, 9, 0, 0, 10, 0, 0, 0, 0, 0, 128, 0, 0, 255, 0), 2);
        due.is("by a row", x.of(2, 1), 9);
        due.is("by a row", x.of(3, 1), 0);
        due.is("count(0)", x.count(0), 4);
    }

    private static void atFirst() {
        HedgeCouncil x = Due.council(3, 4);
        x.coax(0);
        x.pass();
        int late = x.hedgehog(7, 2);
        Due.row(x, 6, 3, 5);
        due.sentence("I", "WATCHES some others (none at first)");
        due.is("hedgehog", x.of(late, 2), 0);
        due.is("a row tells whom", x.of(4, 2), 5);
        due.sentence("I", "OPEN or SHUT (at first)");
        due.is("hedgehog", x.of(late, 3), 0);
        due.is("row", x.of(4, 3), 0);
        due.sentence("I", "STILL for 0 .. 99 MINUTES (0 at first)");
        due.is("hedgehog", x.of(late, 4), 0);
        due.is("row", x.of(4, 4), 0);
        due.is("those that were there", x.of(2, 4), 1);
        HedgeCouncil y = new HedgeCouncil();
        y.image(0);
        Due.row(y, 1, 1, 0, 1, 1, 1);
        y.coax(1);
        y.pass();
        y.back(0);
        y.hedgehog(2, 2);
        y.hedgehog(2, 2);
        due.is("where another one was: still", y.of(1, 4), 0);
        due.is("where another one was: shut", y.of(1, 3), 0);
        due.is("where another one was: watches none", y.of(1, 2), 0);
    }

    private static void still() {
        due.sentence("I", "STILL for 0 .. 99 MINUTES");
        HedgeCouncil x = Due.council(2, 9);
        for (int i = 0; i < 98; i++) x.pass();
        due.is("98", x.of(0, 4), 98);
        x.pass();
        due.is("99", x.of(0, 4), 99);
        x.pass();
        due.is("99 at most", x.of(0, 4), 99);
        due.is("one that is shut, too", x.of(1, 4), 99);
        due.is("by orders", Due.orders(x, "pass times 2;pass if still 0 = 99;pass if still 0 > 99"), 3);
        x.coax(1);
        x.pass();
        due.is("one that is open, too", x.of(1, 4), 99);
        x.councils(0, 1);
        due.is("by councils: one", x.drawn(0, 2), 99);
        due.is("by councils: the other", x.drawn(1, 2), 99);
        Due.under(x, "needs 0 if still > 99");
        due.is("on paper", x.opens(0), -1);
        Due.under(x, "needs 0 if still = 99");
        due.is("on paper", x.opens(0), 1);
        x.touch(0);
        due.is("0", x.of(0, 4), 0);
        due.is("a minute more", x.pass() * 0 + x.of(0, 4), 1);
    }

    private static void seen() {
        due.sentence("I", "SEEN, 6 at most");
        HedgeCouncil x = Due.council(1, 9);
        for (int i = 1; i <= 6; i++) due.is("seen", x.seen(i, 0), i);
        due.is("a seventh", x.seen(0, 1), -5);
        due.is("count(2)", x.count(2), 6);
        due.is("nothing came of it", x.canBe(), 1);
        due.sentence("I", "so many MINUTES 0 .. 60 on from now");
        HedgeCouncil y = Due.council(2, 9);
        due.is("0", y.seen(0, 0), 1);
        due.is("60", y.seen(60, 0), 2);
        due.is("-1", y.seen(-1, 0), -1);
        due.is("61", y.seen(61, 0), -1);
        due.is("the least number", y.seen(LEAST, 0), -1);
        due.is("the greatest number", y.seen(MOST, 0), -1);
        y.coax(0);
        due.is("from now", y.canBe(), 2);
        due.sentence("I", "OPEN (1) or SHUT (0)");
        due.is("1", y.seen(0, 1), 3);
        due.is("2", y.seen(0, 2), -1);
        due.is("-1", y.seen(0, -1), -1);
        due.is("open and shut", y.canBe(), 0);
    }

    private static void terms() {
        String[] words = {"0 MINUTE 0 .. 999 (0 at first)", "1 STARTS 0 .. 10 (1)", "2 HUSH 0 .. 9 (0)", "3 MOOD 0 .. 9 (0)"};
        int[] first = {0, 1, 0, 0};
        int[] most = {999, 10, 9, 9};
        for (int what = 0; what < 4; what++) {
            due.sentence("I", words[what]);
            HedgeCouncil x = new HedgeCouncil();
            due.is("at first", x.count(12 + what), first[what]);
            due.is("one too many", x.terms(what, most[what] + 1), -1);
            due.is("-1", x.terms(what, -1), -1);
            due.is("the greatest number", x.terms(what, MOST), -1);
            due.is("the least number", x.terms(what, LEAST), -1);
            due.is("as it was", x.count(12 + what), first[what]);
            due.is("the most", x.terms(what, most[what]), first[what]);
            due.is("the most", x.count(12 + what), most[what]);
            due.is("the least", x.terms(what, 0), most[what]);
            due.is("the least", x.count(12 + what), 0);
            for (int other = 0; other < 4; other++) {
                if (other != what) due.is("others stay", x.count(12 + other), first[other]);
            }
        }
        due.sentence("I", "TERMS: 0 .. 3");
        HedgeCouncil x = new HedgeCouncil();
        due.is("-1", x.terms(-1, 0), -1);
        due.is("4", x.terms(4, 0), -1);
        due.is("the least number", x.terms(LEAST, 0), -1);
        due.is("the greatest number", x.terms(MOST, 0), -1);
    }

    private static void bits() {
        due.sentence("I", "Sets are told as bits (bit h: HEDGEHOG h)");
        HedgeCouncil x = Due.council(8, 9);
        due.is("none", x.later(0), 0);
        for (int h = 0; h < 8; h++) {
            x.coax(h);
            due.is("one alone", x.later(0), 1 << h);
            x.touch(h);
        }
        for (int h = 0; h < 8; h++) x.coax(h);
        due.is("all", x.later(0), 255);
        due.is("all", x.canBe(), 255);
        HedgeCouncil y = Due.council(8, 1);
        y.watch(0, 7, 1);
        due.is("the highest alone", y.of(0, 2), 128);
        due.is("the highest alone", y.seedsFor(0, 1), 128);
        y.coax(7);
        due.is("the highest alone", y.held(0, 1), 128);
        due.is("the highest alone", Due.council(8, 1).spread(7), 128);
    }

    private static void orderOfRefusals() {
        due.sentence("I", "The first of these in that order");
        HedgeCouncil full = Due.council(8, 1);
        due.is("-1 ahead of -5: hedgehog", full.hedgehog(10, 0), -1);
        due.is("-1 ahead of -5: hedgehog", full.hedgehog(0, 10), -1);
        due.is("-5 alone", full.hedgehog(0, 0), -5);
        due.is("-1 ahead of -2: watch, is", full.watch(8, 0, 2), -1);
        due.is("-1 ahead of -2: watch, is", full.watch(0, 8, -1), -1);
        due.is("-1 ahead of -2: watch, itself", full.watch(8, 8, 1), -1);
        due.is("-1 ahead of -2: tempt", full.tempt(8, 10), -1);
        due.is("-2 ahead of -3: tempt", full.tempt(8, 1), -2);
        due.is("-2 ahead of -3: coax", full.coax(8), -2);
        for (int i = 0; i < 6; i++) full.seen(0, 0);
        due.is("-1 ahead of -5: seen", full.seen(61, 0), -1);
        due.is("-1 ahead of -5: seen", full.seen(0, 2), -1);
        due.is("-5 alone", full.seen(0, 0), -5);
        for (int i = 0; i < 6; i++) Due.law(full, "shuts");
        due.is("-5 ahead of -6: law", Due.law(full, "what"), -5);
        due.is("-5 ahead of -6: law, no text", full.law(), -5);
        due.is("-1 ahead of -2: back", full.back(2), -1);
        due.is("-2 alone", full.back(1), -2);
        HedgeCouncil none = new HedgeCouncil();
        due.is("-1 ahead of -3: councils, seed", none.councils(-1, 1), -1);
        due.is("-1 ahead of -3: councils, n", none.councils(0, 0), -1);
        due.is("-3 alone", none.councils(0, 1), -3);
        due.is("-6 ahead of any that is run: orders", Due.orders(none, "touch 0;what"), -6);
        due.is("-3 alone", Due.orders(none, "touch 0"), -3);
    }

    private static void touching() {
        due.sentence("III", "it is SHUT, whether it was OPEN or not, STILL for 0");
        HedgeCouncil x = Due.council(3, 9);
        x.coax(1);
        x.coax(2);
        x.pass();
        due.is("open", x.touch(1), 1);
        due.is("is shut", x.of(1, 3), 0);
        due.is("still for 0", x.of(1, 4), 0);
        due.is("shut", x.touch(0), 0);
        due.is("stays shut", x.of(0, 3), 0);
        due.is("still for 0", x.of(0, 4), 0);
        due.is("others stay open", x.of(2, 3), 1);
        due.is("others stay still", x.of(2, 4), 1);
        due.is("wants as it did", x.of(1, 0), 9);
    }

    private static void coaxing() {
        due.sentence("III", "To COAX one that is SHUT: it is OPEN (STILL stays)");
        HedgeCouncil x = Due.council(2, 9);
        x.pass();
        x.pass();
        due.is("coax(1)", x.coax(1), 1);
        due.is("still stays", x.of(1, 4), 2);
        due.is("one that is open", x.coax(1), -3);
        x.touch(1);
        due.is("shut again", x.coax(1), 1);
        due.is("still for 0 stays, too", x.of(1, 4), 0);
        due.is("the other one, too", x.coax(0), 2);
        due.sentence("III", "To TEMPT: it WANTS otherwise");
        due.is("otherwise", x.tempt(0, 8), 9);
        due.is("as it wants", x.tempt(0, 8), -3);
        due.is("the other one wants as it did", x.of(1, 0), 9);
    }

    private static void opening() {
        due.sentence("III", "if as many as it NEEDS, or more, of those it WATCHES are OPEN");
        for (int needs = 0; needs <= 4; needs++) {
            HedgeCouncil x = Due.council(6, 9);
            x.tempt(0, needs);
            for (int h = 1; h <= 3; h++) x.watch(0, h, 1);
            x.coax(5);
            for (int open = 0; open <= 3; open++) {
                if (open > 0) x.coax(open);
                due.is("needs " + needs + ", sees " + open, x.of(0, 8), open >= needs ? 1 : 0);
            }
            x.pass();
            due.is("needs " + needs + ", sees 3", x.of(0, 3), needs <= 3 ? 1 : 0);
        }
        HedgeCouncil most = Due.council(8, 7);
        for (int h = 1; h < 8; h++) most.watch(0, h, 1);
        for (int h = 1; h < 7; h++) most.coax(h);
        due.is("6 of 7", most.of(0, 8), 0);
        most.coax(7);
        due.is("7 of 7", most.of(0, 8), 1);
        most.tempt(0, 8);
        due.is("8 can't be seen", most.of(0, 8), 0);
    }

    private static void shutting() {
        due.sentence("III", "each that is OPEN is SHUT then, if it CLOSES");
        HedgeCouncil x = Due.council(3, 0);
        x.coax(0);
        x.coax(1);
        Due.under(x, "shuts if who > 0");
        due.is("pass()", x.pass(), 2);
        due.is("it does not close; it closes, though it needs none; one that is shut opens", x.later(0), 5);
        due.is("pass()", x.pass(), 2);
        due.is("each in turn", x.later(0), 3);
    }

    private static void asItWasAhead() {
        due.sentence("III", "all asked as it was ahead");
        HedgeCouncil up = Due.line(3);
        up.coax(0);
        due.is("those that open are seen a minute later", up.pass(), 2);
        HedgeCouncil down = Due.council(3, 1);
        down.watch(0, 1, 1);
        down.watch(1, 2, 1);
        down.coax(2);
        due.is("by higher numbers, too", down.pass(), 2);
        due.is("by higher numbers, too", down.later(0), 6);
        HedgeCouncil x = Due.council(2, 1);
        Due.under(x, "needs all;wants all + want + still + minute;shuts if all = 1");
        x.coax(0);
        due.is("one shuts; the other one sees too few", x.pass(), 0);
        due.is("all, want, still, minute as they were", x.of(0, 0), 2);
        due.is("all, want, still, minute as they were", x.of(1, 0), 2);
        HedgeCouncil y = Due.under(Due.council(1, 3), "wants 0");
        due.is("it needs what it wanted ahead", y.pass(), 0);
        due.is("then what it came to", y.pass(), 1);
    }

    private static void lastMinute() {
        due.sentence("III", "It is the next MINUTE (at 999 it can't be)");
        HedgeCouncil x = Due.council(1, 0);
        x.terms(0, 998);
        due.is("998", x.pass(), 1);
        due.is("999", x.count(12), 999);
        x.touch(0);
        due.is("at 999", x.pass(), -3);
        due.is("it stays shut", x.of(0, 3), 0);
        due.is("it stays still", x.of(0, 4), 0);
        due.is("it stays 999", x.count(12), 999);
        due.is("by orders", Due.orders(x, "pass"), -3);
        x.terms(0, 997);
        due.is("by orders, one too many", Due.orders(x, "pass times 3"), -3);
        due.is("by orders, just as many", Due.orders(x, "pass times 2"), 2);
        due.is("then one is undone", x.undo() + x.pass(), 4);
    }

    private static void onPaper() {
        due.sentence("III", "On paper, MINUTE goes on beyond 999, too");
        HedgeCouncil x = Due.council(2, 9);
        x.watch(1, 0, 1);
        x.tempt(1, 1);
        x.terms(0, 999);
        Due.under(x, "needs 0 if who = 0 and minute = 1000 + 57");
        due.is("later(58)", x.later(58), 0);
        due.is("later(59)", x.later(59), 1);
        due.is("later(60)", x.later(60), 3);
        due.is("opens", x.opens(1), 60);
        due.is("together", x.together(), 60);
        due.is("again", x.again(), 1);
        due.is("seeds", x.seeds(0), 0);
        due.is("seedsFor", x.seedsFor(1, 0), 0);
        due.is("held", x.held(1, 1), 1);
        due.is("spread", x.spread(0), 0);
        due.is("look", x.look(0), 59);
        x.seen(59, 1);
        due.is("canBe", x.canBe(), 1);
        due.is("it is 999 still", x.count(12), 999);
        Due.under(x, "needs 0 if minute = 999");
        due.is("of", x.of(0, 8), 1);
        due.is("compare", x.compare(1), 2);
        due.is("compare", x.compare(-1), 0);
    }

    /** One hedgehog that opens so many minutes on, and not otherwise. */
    private static HedgeCouncil opensAt(int n) {
        return Due.under(Due.council(1, 9), "needs 0 if still + 1 = " + n);
    }

    private static void opens() {
        due.sentence("III", "OPENS: the least n 0 .. 60 MINUTES on at which one is OPEN");
        HedgeCouncil open = opensAt(5);
        open.coax(0);
        due.is("0", open.opens(0), 0);
        due.is("1", opensAt(1).opens(0), 1);
        due.is("59", opensAt(59).opens(0), 59);
        due.is("60", opensAt(60).opens(0), 60);
        due.is("61", opensAt(61).opens(0), -1);
        due.is("the least, if it shuts again", Due.under(Due.council(1, 0), "shuts").opens(0), 1);
        due.sentence("III", "LATER: who is OPEN n MINUTES on");
        due.is("59", opensAt(60).later(59), 0);
        due.is("60", opensAt(60).later(60), 1);
        due.is("0", open.later(0), 1);
    }

    private static void together() {
        due.sentence("III", "TOGETHER: the least n 0 .. 60 at which all are");
        HedgeCouncil open = opensAt(5);
        open.coax(0);
        due.is("0", open.together(), 0);
        due.is("60", opensAt(60).together(), 60);
        due.is("61", opensAt(61).together(), -1);
        HedgeCouncil turns = Due.under(Due.council(2, 0), "shuts");
        turns.coax(0);
        due.is("each, but not all at once", turns.together(), -1);
        due.is("none is there", new HedgeCouncil().together(), 0);
    }

    private static void again() {
        due.sentence("III", "AGAIN: the least n 1 .. 60 behind which just those are OPEN that are now");
        due.is("1, not 0", Due.council(1, 9).again(), 1);
        HedgeCouncil two = Due.under(Due.council(1, 0), "shuts");
        due.is("2", two.again(), 2);
        due.is("60", Due.under(Due.council(1, 9), "shuts if still = 59;needs 0 if still = 0").again(), 60);
        due.is("61", Due.under(Due.council(1, 9), "shuts if still = 60;needs 0 if still = 0").again(), -1);
        HedgeCouncil more = Due.line(2);
        more.coax(0);
        due.is("those and others are not just those", more.again(), -1);
        HedgeCouncil fewer = Due.under(Due.council(2, 9), "shuts if who = 1");
        fewer.coax(0);
        fewer.coax(1);
        due.is("some of those are not just those", fewer.again(), -1);
        due.is("none is there", new HedgeCouncil().again(), 1);
    }

    /** 3 opens if 0 and 1 do, each of whom opens if 2 does, who opens if both do. */
    private static HedgeCouncil byOneOrTwo() {
        HedgeCouncil x = Due.council(4, 1);
        int[][] watches = {{0, 2}, {1, 2}, {2, 0}, {2, 1}, {3, 0}, {3, 1}};
        for (int[] w : watches) x.watch(w[0], w[1], 1);
        x.tempt(2, 2);
        x.tempt(3, 2);
        return x;
    }

    private static void seeds() {
        due.sentence("III", "SEEDS: .. at one of the MINUTES 0 .. 60 on");
        HedgeCouncil shuts = Due.under(Due.council(8, 9), "shuts");
        due.is("0", shuts.seeds(0), 8);
        due.is("0", shuts.seeds(1), 255);
        due.is("60", opensAt(60).seeds(0), 0);
        due.is("61", opensAt(61).seeds(0), 1);
        due.sentence("III", "SEEDS: the fewest of those that are SHUT .. the lowest as bits");
        HedgeCouncil ring = Due.line(8);
        ring.watch(0, 7, 1);
        due.is("any would do", ring.seeds(0), 1);
        due.is("the lowest", ring.seeds(1), 1);
        due.is("one, though two have lower bits", byOneOrTwo().seeds(1), 4);
        HedgeCouncil alone = Due.council(2, 0);
        alone.hedgehog(9, 9);
        due.is("one that opens by nobody", alone.seeds(1), 4);
        alone.coax(2);
        due.is("none is coaxed that is open", alone.seeds(1), 0);
        HedgeCouncil all = Due.council(3, 9);
        for (int h = 0; h < 3; h++) all.coax(h);
        due.is("all are open", all.seeds(0), 0);
        due.is("all are open", all.seeds(1), 0);
        HedgeCouncil apart = Due.under(Due.council(2, 9), "shuts if who = 0;needs 0 if who = 0 and all = 0");
        apart.coax(1);
        due.is("together only if coaxed", apart.seeds(1), 1);
        HedgeCouncil never = Due.under(Due.council(2, 9), "shuts");
        never.coax(0);
        due.is("together only now", never.seeds(1), 2);
        due.is("none is there", new HedgeCouncil().seeds(0), 0);
        due.is("none is there", new HedgeCouncil().seeds(1), 0);
    }

    /** Two of whom the second, that watches the first, opens so many minutes on at the earliest. */
    private static HedgeCouncil waits(int n) {
        HedgeCouncil x = Due.council(2, 1);
        x.watch(1, 0, 1);
        return Due.under(x, "needs 9 if who = 1 and still + 1 < " + n);
    }

    private static void seedsForOne() {
        due.sentence("III", "FOR one: .. it would be OPEN at one of these");
        HedgeCouncil open = Due.council(2, 9);
        open.coax(1);
        due.is("0", open.seedsFor(1, 0), 0);
        due.is("0", open.seedsFor(1, 1), 0);
        due.is("60, of itself", opensAt(60).seedsFor(0, 0), 0);
        due.is("61, of itself", opensAt(61).seedsFor(0, 0), -1);
        due.is("60", waits(60).seedsFor(1, 0), 1);
        due.is("60", waits(60).seedsFor(1, 1), 1);
        due.is("61", waits(61).seedsFor(1, 0), -1);
        due.is("61", waits(61).seedsFor(1, 1), -1);
        due.sentence("III", "FOR one: the fewest others that are SHUT .. the lowest as bits");
        HedgeCouncil x = Due.council(8, 7);
        for (int h = 1; h < 8; h++) x.watch(0, h, 1);
        due.is("all others", x.seedsFor(0, 0), 7);
        due.is("all others", x.seedsFor(0, 1), 254);
        x.coax(7);
        due.is("those that are shut", x.seedsFor(0, 1), 126);
        x.tempt(0, 3);
        due.is("the lowest", x.seedsFor(0, 1), 6);
        x.tempt(0, 8);
        due.is("one more than there are", x.seedsFor(0, 1), -1);
        due.is("one, though two have lower bits", byOneOrTwo().seedsFor(3, 1), 4);
        due.is("itself is none of the others", Due.council(1, 9).seedsFor(0, 0), -1);
    }

    private static void spread() {
        due.sentence("III", "SPREAD of one: who would be OPEN 60 MINUTES on");
        due.is("60", waits(60).spread(0), 3);
        due.is("61", waits(61).spread(0), 1);
        due.is("shut at 60", Due.under(Due.council(1, 9), "shuts if still = 59").spread(0), 0);
        due.is("shut at 61", Due.under(Due.council(1, 9), "shuts if still = 60").spread(0), 1);
        due.is("open at 60 anyhow", opensAt(60).spread(0), 0);
        due.is("open at 61 anyhow", opensAt(61).spread(0), 1);
        due.sentence("III", "were it OPEN now (COAXED, if it is SHUT), but not, were it SHUT now (as if it had never been OPEN, STILL as it is)");
        HedgeCouncil x = Due.line(3);
        due.is("one that is shut", x.spread(1), 6);
        x.coax(1);
        due.is("one that is open", x.spread(1), 6);
        x.coax(2);
        due.is("one who is open anyhow", x.spread(1), 2);
        due.is("nothing is done", x.later(0), 6);
        HedgeCouncil s = Due.council(1, 9);
        for (int i = 0; i < 30; i++) s.pass();
        s.coax(0);
        due.is("still as it is: it would open anyhow", Due.under(s, "needs 0 if still = 89").spread(0), 0);
        due.is("still as it is: it would not yet", Due.under(s, "needs 0 if still = 90").spread(0), 1);
        due.is("it opens by itself and shuts", Due.under(Due.council(1, 9), "shuts if still = 59;needs 0 if still = 58").spread(0), 0);
    }

    private static void held() {
        due.sentence("III", "HELD .. leave it SHUT at all of the MINUTES 0 .. 60 on");
        HedgeCouncil at60 = waits(60);
        at60.coax(0);
        due.is("60", at60.held(1, 0), 1);
        due.is("60", at60.held(1, 1), 1);
        HedgeCouncil at61 = waits(61);
        at61.coax(0);
        due.is("61", at61.held(1, 0), 0);
        due.is("61", at61.held(1, 1), 0);
        due.is("of itself at 60", opensAt(60).held(0, 0), -1);
        due.is("of itself at 61", opensAt(61).held(0, 0), 0);
        HedgeCouncil once = Due.line(2);
        once.coax(0);
        Due.under(once, "shuts");
        due.is("open at one minute alone", once.held(1, 1), 1);
        due.sentence("III", "the fewest others (OPEN or not) who, held SHUT from now on, whatever they NEED .. the lowest as bits");
        HedgeCouncil x = Due.council(8, 1);
        for (int h = 1; h < 8; h++) {
            x.watch(0, h, 1);
            if (h % 2 == 0) x.coax(h);
            else x.tempt(h, 0);
        }
        due.is("open or not, whatever they need", x.held(0, 0), 7);
        due.is("open or not, whatever they need", x.held(0, 1), 254);
        x.tempt(0, 7);
        due.is("any would do: the lowest", x.held(0, 1), 2);
        x.tempt(0, 8);
        due.is("it stays shut anyhow", x.held(0, 1), 0);
        HedgeCouncil source = byOneOrTwo();
        source.tempt(3, 1);
        source.coax(2);
        due.is("one, though two have lower bits", source.held(3, 1), 4);
        HedgeCouncil line = Due.line(8);
        line.coax(3);
        due.is("any between would do: the lowest", line.held(7, 1), 8);
        due.is("one that is shut leads to none", line.held(2, 0), 0);
        HedgeCouncil others = Due.council(2, 9);
        others.watch(1, 0, 1);
        others.tempt(1, 1);
        Due.under(others, "needs 0 if who = 0;needs 0 if who = 1 and all = 0");
        due.is("held ones are seen to be shut", others.held(1, 0), -1);
        due.sentence("III", "HELD from one that is SHUT");
        line.coax(7);
        due.is("it is open", line.held(7, 0), -1);
        due.is("it is open", line.held(7, 1), -1);
    }

    private static void chains() {
        due.sentence("III", "A CHAIN from one to another one: the fewest HEDGEHOGS behind the one .. the last one the other one");
        HedgeCouncil x = Due.line(8);
        due.is("seven, the most", x.chain(0, 7, -1), 7);
        for (int i = 0; i < 7; i++) due.is("one by one", x.chain(0, 7, i), i + 1);
        due.is("behind the last", x.chain(0, 7, 7), -1);
        due.is("one", x.chain(6, 7, -1), 1);
        due.is("one", x.chain(6, 7, 0), 7);
        due.is("the other way there is none", x.chain(7, 6, -1), -1);
        x.watch(7, 0, 1);
        due.is("the fewest", x.chain(0, 7, -1), 1);
        due.is("the fewest", x.chain(0, 7, 0), 7);
        due.sentence("III", "A CHAIN .. the first as a row");
        HedgeCouncil y = Due.council(8, 1);
        int[][] watches = {{1, 0}, {2, 0}, {6, 1}, {3, 2}, {7, 6}, {7, 3}};
        for (int[] w : watches) y.watch(w[0], w[1], 1);
        due.is("1 is ahead of 2", y.chain(0, 7, 0), 1);
        due.is("though 3 is ahead of 6", y.chain(0, 7, 1), 6);
        due.is("the other one", y.chain(0, 7, 2), 7);
        y.watch(3, 1, 1);
        due.is("3 is ahead of 6", y.chain(0, 7, 1), 3);
        y.watch(1, 7, 1);
        due.is("back by another way", y.chain(7, 6, 0), 1);
        due.is("back by another way", y.chain(7, 6, 1), 6);
    }

    private static void knots() {
        due.sentence("III", "KNOTS: sets in which there is a CHAIN from each to each (one alone is one): how many");
        due.is("none is there", new HedgeCouncil().knots(), 0);
        due.is("one alone", Due.council(1, 1).knots(), 1);
        due.is("each alone", Due.council(8, 1).knots(), 8);
        HedgeCouncil x = Due.line(8);
        due.is("a line", x.knots(), 8);
        x.watch(0, 7, 1);
        due.is("a ring", x.knots(), 1);
        x.watch(0, 7, 0);
        x.watch(0, 1, 1);
        x.watch(6, 7, 1);
        due.is("the first two, the last two", x.knots(), 6);
        x.watch(1, 0, 0);
        due.is("one way is no knot", x.knots(), 7);
    }

    private static void heads() {
        due.sentence("III", "HEADS: the fewest HEDGEHOGS from one of whom at least there is a CHAIN to each (to themselves: of none); the lowest as bits");
        due.is("none is there", new HedgeCouncil().heads(0), 0);
        due.is("none is there", new HedgeCouncil().heads(1), 0);
        due.is("each alone", Due.council(8, 1).heads(0), 8);
        due.is("each alone", Due.council(8, 1).heads(1), 255);
        HedgeCouncil x = Due.council(8, 1);
        for (int h = 0; h < 7; h++) x.watch(h, 7, 1);
        due.is("all come from the highest", x.heads(0), 1);
        due.is("all come from the highest", x.heads(1), 128);
        x.watch(7, 3, 1);
        due.is("the lowest of its knot", x.heads(1), 8);
        x.watch(7, 1, 1);
        due.is("the lowest of its knot", x.heads(1), 2);
        HedgeCouncil two = Due.council(6, 1);
        int[][] watches = {{1, 2}, {2, 1}, {0, 2}, {4, 5}, {5, 4}, {3, 4}, {3, 1}};
        for (int[] w : watches) two.watch(w[0], w[1], 1);
        due.is("one of each knot that none leads to", two.heads(0), 2);
        due.is("the lowest", two.heads(1), 2 + 16);
    }

    private static void canBe() {
        due.sentence("III", "IT CAN BE: HEDGEHOGS that would be OPEN or SHUT as all that was SEEN");
        HedgeCouncil x = Due.line(8);
        x.coax(0);
        due.is("nothing was seen", x.canBe(), 255);
        x.seen(0, 1);
        due.is("0, open", x.canBe(), 1);
        x.forget();
        x.seen(0, 0);
        due.is("0, shut", x.canBe(), 254);
        x.seen(7, 1);
        due.is("all that was seen", x.canBe(), 254);
        x.seen(6, 0);
        due.is("all that was seen", x.canBe(), 128);
        x.seen(60, 1);
        x.seen(60, 1);
        due.is("the same again", x.canBe(), 128);
        x.seen(60, 0);
        due.is("the sixth", x.canBe(), 0);
        HedgeCouncil late = opensAt(60);
        late.seen(60, 1);
        due.is("60", late.canBe(), 1);
        late.seen(59, 0);
        due.is("59", late.canBe(), 1);
        due.is("none is there", new HedgeCouncil().canBe(), 0);
    }

    private static void look() {
        due.sentence("III", "To LOOK: the least n 0 .. 60 MINUTES on");
        HedgeCouncil x = Due.line(8);
        x.coax(0);
        due.is("four and four", x.look(0), 3);
        due.is("four and four", x.look(1), 4);
        x.seen(2, 0);
        due.is("of these five", x.look(0), 4);
        due.is("of these five", x.look(1), 3);
        HedgeCouncil now = Due.council(2, 9);
        now.coax(1);
        due.is("0", now.look(0), 0);
        due.is("0", now.look(1), 1);
        HedgeCouncil at60 = Due.under(Due.council(2, 9), "needs 0 if who = 1 and still = 59");
        due.is("60", at60.look(0), 60);
        due.is("60", at60.look(1), 1);
        HedgeCouncil at61 = Due.under(Due.council(2, 9), "needs 0 if who = 1 and still = 60");
        due.is("61", at61.look(0), 0);
        due.is("61", at61.look(1), 2);
        due.is("one alone", Due.council(1, 1).look(0), 0);
        due.is("one alone", Due.council(1, 1).look(1), 1);
        now.seen(0, 1);
        now.seen(0, 0);
        due.is("it can be none", now.look(0), -1);
        due.is("it can be none", now.look(1), -1);
    }

    private static void few() {
        due.sentence("III", "FEW: the chance, of 1,000,000,000,000 parts, that .. fewer than k do");
        HedgeCouncil x = new HedgeCouncil();
        due.is("of none fewer than one", x.few(1, 0), 1_000_000_000_000L);
        due.is("of one fewer than one", x.few(1, 1), 900_000_000_000L);
        due.is("of one fewer than two", x.few(2, 1), 1_000_000_000_000L);
        due.is("of two fewer than two", x.few(2, 2), 990_000_000_000L);
        due.is("of two fewer than three", x.few(3, 2), 1_000_000_000_000L);
        due.sentence("III", "each part times the rest by ten and times STARTS by ten (one more), both cut");
        due.is("twelve come out even", x.few(1, 12), 282_429_536_481L);
        due.is("the thirteenth is cut", x.few(1, 13), 254_186_582_832L);
        due.is("the fourteenth of what was cut", x.few(1, 14), 228_767_924_548L);
        due.is("the sum of what was cut", x.few(14, 13), 999_999_999_998L + cutBack(13));
        due.sentence("III", "each of which starts in STARTS of ten");
        x.terms(1, 10);
        due.is("all do, of 19 not fewer than 19", x.few(19, 19), 0);
        due.is("all do, of 19 fewer than 20", x.few(20, 19), 1_000_000_000_000L);
        due.is("all do, of 99", x.few(20, 99), 0);
        due.is("of none", x.few(1, 0), 1_000_000_000_000L);
        x.terms(1, 0);
        due.is("none does, of 99", x.few(1, 99), 1_000_000_000_000L);
        x.terms(1, 5);
        due.is("a half", x.few(1, 1), 500_000_000_000L);
        due.is("a half, by 39 times cut", x.few(1, 39), 1);
        due.is("a half, by 40 times cut", x.few(1, 40), 0);
    }

    /** By how much the parts of so many that start in one of ten, all together, differ from 999,999,999,998. */
    private static long cutBack(int n) {
        long[] p = new long[n + 2];
        p[0] = 1_000_000_000_000L;
        for (int i = 0; i < n; i++) {
            for (int j = n; j >= 0; j--) p[j] = p[j] * 9 / 10 + (j > 0 ? p[j - 1] / 10 : 0);
        }
        long sum = 0;
        for (long part : p) sum += part;
        return sum - 999_999_999_998L;
    }

    private static void compared() {
        due.sentence("III", "COMPARED: how many would be OPEN behind one MINUTE by a LAW in place of that in FORCE (NONE: none)");
        HedgeCouncil x = Due.line(8);
        x.coax(0);
        for (int i = 0; i < 6; i++) Due.law(x, "needs 0 if who < " + (i + 3));
        for (int force = -1; force < 6; force += 2) {
            x.force(force);
            due.is("none", x.compare(-1), 2);
            for (int i = 0; i < 6; i++) due.is("the law " + i, x.compare(i), i + 3);
            due.is("the one in force stays", x.count(11), force);
        }
        due.is("the seventh", x.compare(6), -1);
        due.is("-2", x.compare(-2), -1);
        due.is("one minute, not two", Due.under(Due.line(3), "needs 0 if who = 0").compare(0), 1);
    }

    /** The council as it is behind councils by another writing of the document. */
    private static void likePlain(int many, int seed, int n, int minute) {
        HedgeCouncil x = new HedgeCouncil();
        PlainCouncil y = new PlainCouncil();
        for (int h = 0; h < many; h++) {
            x.hedgehog(h % 3, 1);
            y.hedgehog(h % 3, 1);
        }
        for (int h = 1; h < many; h++) {
            x.watch(h, h - 1, 1);
            y.watch(h, h - 1, 1);
        }
        x.terms(0, minute);
        y.terms(0, minute);
        due.is("councils(" + seed + ", " + n + ") of " + many, x.councils(seed, n), y.councils(seed, n));
        for (int h = 0; h < many; h++) {
            for (int what = 0; what < 3; what++) due.is("drawn(" + h + ", " + what + ")", x.drawn(h, what), y.drawn(h, what));
        }
    }

    private static void draws() {
        due.sentence("IV", "COUNCILS with a SEED, n 1 .. 60");
        HedgeCouncil x = Due.council(2, 9);
        due.is("n 0", x.councils(0, 0), -1);
        due.is("n -1", x.councils(0, -1), -1);
        due.is("n 61", x.councils(0, 61), -1);
        due.is("the least number", x.councils(0, LEAST), -1);
        due.is("the greatest number", x.councils(0, MOST), -1);
        due.is("none was kept", x.drawn(0, 0), -1);
        due.isSo("n 1", x.councils(0, 1) >= 0);
        due.isSo("n 60", x.councils(0, 60) >= 0);
        due.sentence("IV", "s is the SEED (0 .. 1,000,000)");
        due.is("-1", x.councils(-1, 1), -1);
        due.is("1,000,001", x.councils(1_000_001, 1), -1);
        due.is("the least number", x.councils(LEAST, 1), -1);
        due.is("the greatest number", x.councils(MOST, 1), -1);
        due.isSo("0", x.councils(0, 1) >= 0);
        due.isSo("1,000,000", x.councils(1_000_000, 1) >= 0);
        due.sentence("IV", "s becomes (s times 1103 and 12345) modulo 1,000,003, it is s modulo m");
        // 896 leads to 1,000,633, beyond the modulus: 630, then 707,235, then 90,210, which are 6, 5, 2.
        HedgeCouncil eight = Due.council(8, 9);
        due.is("beyond the modulus: none opens", eight.councils(896, 1), 0);
        due.is("beyond the modulus: 6 wants 5", eight.drawn(6, 0), 5);
        due.is("others want as they did", eight.drawn(1, 0), 9);
        // 870,345 leads to 960 times the modulus: 0, then 12,345, then 628,841, which are 0, 5, 1.
        due.is("just at the modulus: 0 opens", eight.councils(870_345, 1), 1);
        // 327,279 leads to 1,000,002, just below the modulus: 2, 2, 3, and then 4, 5, 1.
        due.is("just below the modulus: nothing", eight.councils(327_279, 1), 0);
        due.is("just below the modulus: then 4 opens", eight.councils(327_279, 2), 16);
        // 1,000,000 leads to 4, 6, 2, then to 3, 8, 0, then to 5, 4, 3.
        eight.councils(1_000_000, 3);
        due.is("the greatest seed: 4 wants 6", eight.drawn(4, 0), 6);
        due.is("the greatest seed: 3 is touched, and two minutes pass", eight.drawn(3, 2), 2);
        due.is("the greatest seed: three minutes pass", eight.drawn(5, 2), 3);
        int[] seeds = {0, 1, 2, 895, 896, 897, 999_999, 1_000_000, 500_000, 123_456};
        for (int seed : seeds) for (int many : new int[] {1, 3, 8}) likePlain(many, seed, 60, 0);
        for (int n = 1; n <= 12; n++) likePlain(5, 1066, n, 0);
    }

    private static void councilsEnd() {
        due.sentence("IV", "Each time (at MINUTE 999 it ends)");
        int[] minutes = {999, 998, 997, 940, 939, 938};
        for (int minute : minutes) likePlain(4, 5, 60, minute);
        // The draws are 1, 1, 1: one opens, none is touched.
        HedgeCouncil x = Due.council(8, 9);
        x.terms(0, 999);
        due.is("at 999 none is held", x.councils(0, 60), 0);
        due.is("at 999 no minute passes", x.drawn(7, 2), 0);
        x.terms(0, 998);
        x.councils(0, 60);
        due.is("at 998 one is held", x.drawn(1, 1), 1);
        due.is("at 998 a minute passes", x.drawn(7, 2), 1);
        due.is("on paper", x.count(12), 998);
        due.sentence("IV", "DRAWS of HEDGEHOGS, of 10, of 4, whatever comes of them");
        likePlain(1, 0, 60, 0);
        due.sentence("IV", "at 1 it is OPEN (COAXED, if it is SHUT)");
        HedgeCouncil open = Due.council(3, 9);
        open.coax(0);
        open.pass();
        due.is("one that is open stays open", open.councils(0, 1), 1);
        due.is("still goes on", open.drawn(0, 2), 2);
    }

    private static void rows() {
        due.sentence("IV", "A ROW: the TAPE's bytes by threes");
        for (int bytes = 1; bytes <= 9; bytes++) {
            HedgeCouncil x = new HedgeCouncil();
            Due.tape(x, "\0".repeat(bytes));
            due.is(bytes + " bytes", x.row(), bytes / 3);
            due.is("one within which the tape ends", x.burrs(), bytes % 3 == 0 ? 0 : 1);
        }
        due.sentence("IV", "whom it WATCHES, as bits (HEDGEHOGS with lower numbers that are there)");
        for (int many = 0; many < 8; many++) {
            HedgeCouncil x = Due.council(many, 1);
            due.is("all with lower numbers", Due.row(x, 1, 1, (1 << many) - 1), 1);
            due.is("all with lower numbers", x.of(many, 2), (1 << many) - 1);
            HedgeCouncil y = Due.council(many, 1);
            due.is("itself", Due.row(y, 1, 1, 1 << many), 0);
            due.is("itself", y.burrs(), 1);
            due.is("all and itself", Due.row(y, 1, 1, (2 << many) - 1), 0);
            due.is("the highest bit", Due.row(y, 1, 1, 128), 0);
            due.is("one that is not there", Due.row(y, 1, 1, 255), 0);
            due.is("nothing", y.count(0), many);
        }
        HedgeCouncil z = new HedgeCouncil();
        due.is("those that came in the same row", Due.row(z, 1, 0, 0, 2, 0, 1, 3, 0, 3), 3);
        due.is("a burr has no number", Due.row(z, 99, 0, 0, 4, 0, 8, 4, 0, 7), 1);
        due.is("two burrs", z.burrs(), 2);
        due.is("the fourth", z.of(3, 2), 7);
        due.sentence("IV", "one for which there is no room is a BURR: nothing");
        due.is("four of six", Due.row(z, 0, 0, 0, 0, 0, 0, 0, 0, 0, 0, 0, 0, 0, 0, 0, 0, 0, 0), 4);
        due.is("two burrs", z.burrs(), 2);
        due.is("none of one", Due.row(z, 0, 0, 0), 0);
        due.is("a burr", z.burrs(), 1);
        HedgeCouncil full = new HedgeCouncil();
        due.is("a full tape: eight", Due.tape(full, "\0".repeat(400)).row(), 8);
        due.is("a full tape: 125 without room, one within which it ends", full.burrs(), 126);
    }

    private static void images() {
        due.sentence("IV", "IMAGES 0, 1");
        HedgeCouncil x = new HedgeCouncil();
        due.is("-1", x.image(-1), -1);
        due.is("2", x.image(2), -1);
        due.is("the least number", x.image(LEAST), -1);
        due.is("the greatest number", x.image(MOST), -1);
        due.is("0 was not kept", x.back(0), -2);
        due.is("1 was not kept", x.back(1), -2);
        due.is("0", x.image(0), 0);
        due.is("1 was not kept", x.back(1), -2);
        x.hedgehog(1, 1);
        due.is("1", x.image(1), 0);
        x.hedgehog(1, 1);
        due.is("back to 0", x.back(0), 0);
        due.is("an empty one", x.count(0), 0);
        due.is("back to 1", x.back(1), 0);
        due.is("one", x.count(0), 1);
        x.hedgehog(1, 1);
        due.is("kept once more", x.image(0), 0);
        x.back(1);
        x.back(0);
        due.is("the later one", x.count(0), 2);
        due.sentence("IV", "(IMAGES stay)");
        x.hedgehog(1, 1);
        x.back(0);
        due.is("back to the same again", x.count(0), 2);
        x.back(1);
        due.is("and to the other one", x.count(0), 1);
        due.sentence("IV", "what can be undone (nothing, behind back())");
        x.pass();
        x.image(0);
        due.is("image() leaves it", x.count(4), 1);
        x.back(0);
        due.is("nothing", x.count(4), 0);
        due.is("nothing", x.undo(), -3);
    }
}
