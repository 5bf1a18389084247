/** Each promise by itself: ordinary inputs, the edges that the document names, wrong inputs. */
public final class PromisesTest {
    private static final Due due = new Due();
    private static final int MOST = Integer.MAX_VALUE;
    private static final int LEAST = Integer.MIN_VALUE;

    private PromisesTest() {
    }

    public static void main(String[] args) {
        aNewObject();
        hedgehog();
        watch();
        of();
        terms();
        feedAndEnd();
        rowAndBurrs();
        law();
        orders();
        faultAndStopped();
        force();
        touch();
        coax();
        tempt();
        pass();
        undo();
        later();
        opensTogetherAgain();
        seeds();
        seedsFor();
        spread();
        held();
        chain();
        knotsAndHeads();
        seenAndForget();
        canBeAndLook();
        few();
        compare();
        councilsAndDrawn();
        imageAndBack();
        count();
        status();
        due.close();
    }

    private static void aNewObject() {
        due.promise(1, "a new object");
        HedgeCouncil x = new HedgeCouncil();
        for (int what = 0; what <= 15; what++) due.is("count(" + what + ")", x.count(what), what == 11 ? -1 : what == 13 ? 1 : 0);
        due.is("status()", x.status(), 0);
        due.is("fault()", x.fault(), -1);
        due.is("stopped()", x.stopped(), -1);
        due.is("burrs()", x.burrs(), 0);
        due.is("drawn(0, 0)", x.drawn(0, 0), -1);
        due.is("of(0, 0)", x.of(0, 0), -1);
        due.is("back(0)", x.back(0), -2);
        due.is("NONE", HedgeCouncil.NONE, -1);
    }

    private static void hedgehog() {
        due.promise(2, "hedgehog");
        HedgeCouncil x = new HedgeCouncil();
        for (int i = 0; i < 8; i++) due.is("the " + i + "th", x.hedgehog(9 - i, i), i);
        due.is("of(2, 0)", x.of(2, 0), 7);
        due.is("of(2, 1)", x.of(2, 1), 2);
        due.is("of(2, 2)", x.of(2, 2), 0);
        due.is("of(2, 3)", x.of(2, 3), 0);
        due.is("of(2, 4)", x.of(2, 4), 0);
        due.is("a ninth", x.hedgehog(0, 0), -5);
        due.is("a ninth that can't be", x.hedgehog(0, 10), -1);
        due.is("want -1", x.hedgehog(-1, 0), -1);
        due.is("shy -1", x.hedgehog(0, -1), -1);
        due.is("want far off", x.hedgehog(MOST, LEAST), -1);
        due.is("count(0)", x.count(0), 8);
        HedgeCouncil y = Due.council(1, 0);
        y.pass();
        due.is("refused", y.hedgehog(0, 10), -1);
        due.is("what can be undone stays", y.count(4), 1);
        due.is("another one", y.hedgehog(9, 9), 1);
        due.is("nothing can be undone", y.count(4), 0);
    }

    private static void watch() {
        due.promise(3, "watch");
        HedgeCouncil x = Due.council(3, 1);
        due.is("watch(0, 1, 1)", x.watch(0, 1, 1), 0);
        due.is("watch(0, 2, 1)", x.watch(0, 2, 1), 0);
        due.is("of(0, 2)", x.of(0, 2), 6);
        due.is("watch(0, 1, 0)", x.watch(0, 1, 0), 1);
        due.is("watch(0, 1, 0) again", x.watch(0, 1, 0), 0);
        due.is("of(0, 2)", x.of(0, 2), 4);
        due.is("of(1, 2)", x.of(1, 2), 0);
        due.is("itself", x.watch(1, 1, 0), -1);
        due.is("itself, that isn't there", x.watch(7, 7, 1), -1);
        due.is("is 2", x.watch(9, 0, 2), -1);
        due.is("is -1", x.watch(0, 1, -1), -1);
        due.is("one -1", x.watch(-1, 0, 1), -2);
        due.is("one 3", x.watch(3, 0, 1), -2);
        due.is("other 3", x.watch(0, 3, 1), -2);
        due.is("other far off", x.watch(0, LEAST, 1), -2);
        x.coax(2);
        due.is("watch(1, 2, 1)", x.watch(1, 2, 1), 0);
        due.is("what can be undone stays", x.count(4), 1);
        due.is("undo()", x.undo(), 1);
        due.is("who watches stays", x.of(1, 2), 4);
    }

    private static void of() {
        due.promise(4, "of");
        HedgeCouncil x = Due.council(3, 2);
        x.watch(0, 1, 1);
        x.watch(0, 2, 1);
        x.coax(1);
        due.is("needs as it wants", x.of(0, 5), 2);
        due.is("comes to what it wants", x.of(0, 6), 2);
        due.is("closes without a law", x.of(1, 7), 0);
        due.is("an open one stays", x.of(1, 8), 1);
        due.is("too few", x.of(0, 8), 0);
        x.coax(2);
        due.is("enough", x.of(0, 8), 1);
        HedgeCouncil l = Due.line(3);
        l.coax(0);
        due.is("behind one minute, not two", l.of(2, 8), 0);
        Due.law(x, "needs 3;needs 1 if near = 2;needs 7 if near = 9;wants 20;wants 0 - 5 if who = 1;wants 1/0;shuts if who=2");
        x.force(0);
        due.is("the last that holds", x.of(0, 5), 1);
        due.is("the last that holds", x.of(1, 5), 3);
        due.is("the nearest, 9", x.of(0, 6), 9);
        due.is("the nearest, 0", x.of(1, 6), 0);
        due.is("closes", x.of(2, 7), 1);
        due.is("closes not", x.of(1, 7), 0);
        due.is("is shut then", x.of(2, 8), 0);
        x.touch(2);
        due.is("one that is shut is asked, too", x.of(2, 7), 1);
        x.terms(0, 999);
        due.is("on paper beyond the last minute", x.of(1, 8), 1);
        due.is("what 9", x.of(0, 9), -1);
        due.is("what -1", x.of(0, -1), -1);
        due.is("one 3", x.of(3, 0), -1);
        due.is("one -1", x.of(-1, 0), -1);
        due.is("far off", x.of(MOST, LEAST), -1);
    }

    private static void terms() {
        due.promise(5, "terms");
        HedgeCouncil x = Due.council(1, 0);
        int[] first = {0, 1, 0, 0};
        int[] most = {999, 10, 9, 9};
        for (int what = 0; what < 4; what++) {
            due.is("the most", x.terms(what, most[what]), first[what]);
            due.is("beyond", x.terms(what, most[what] + 1), -1);
            due.is("below", x.terms(what, -1), -1);
            due.is("count", x.count(12 + what), most[what]);
            due.is("the least", x.terms(what, 0), most[what]);
        }
        due.is("what 4", x.terms(4, 0), -1);
        due.is("what -1", x.terms(-1, 0), -1);
        due.is("far off", x.terms(LEAST, MOST), -1);
        x.pass();
        due.is("refused", x.terms(0, 1000), -1);
        due.is("what can be undone stays", x.count(4), 1);
        due.is("the same once more", x.terms(2, 0), 0);
        due.is("nothing can be undone", x.undo(), -3);
    }

    private static void feedAndEnd() {
        due.promise(6, "feed");
        HedgeCouncil x = new HedgeCouncil();
        due.is("four bytes each, the highest first", x.feed(0x01020009, 0x00000908, 0x05ffffff, 0, 0), 20);
        due.is("end(9)", x.end(9), 9);
        due.is("row()", x.row(), 2);
        due.is("of(0, 0)", x.of(0, 0), 1);
        due.is("of(0, 1)", x.of(0, 1), 2);
        due.is("of(1, 0)", x.of(1, 0), 9);
        due.is("burrs()", x.burrs(), 1);
        for (int i = 1; i <= 20; i++) due.is("feed", x.feed(0, 0, 0, 0, 0), 20 * i);
        due.is("there would be more than 400", x.feed(0, 0, 0, 0, 0), -1);
        due.is("count(5)", x.count(5), 400);
        due.promise(7, "end");
        due.is("end(401)", x.end(401), -1);
        due.is("end(-1)", x.end(-1), -1);
        due.is("end(400)", x.end(400), 400);
        due.is("end(381)", x.end(381), 381);
        due.is("still more than 400", x.feed(0, 0, 0, 0, 0), -1);
        due.is("end(380)", x.end(380), 380);
        due.is("just 400", x.feed(0, 0, 0, 0, 0), 400);
        due.is("end(0)", x.end(0), 0);
        due.is("end(1)", x.end(1), -1);
        due.is("far off", x.end(LEAST), -1);
        due.is("status() is not asked", x.status(), 0);
    }

    private static void rowAndBurrs() {
        due.promise(8, "row");
        HedgeCouncil x = Due.council(1, 0);
        x.pass();
        due.is("the tape is empty", x.row(), -6);
        due.is("what can be undone stays", x.count(4), 1);
        String row = "\11\11\1" + "\1\1\4" + "\1\1\3" + "\12\0\0" + "\0\12\0" + "\0\0\200" + "\2\3";
        due.is("row()", Due.tape(x, row).row(), 2);
        due.is("of(1, 0)", x.of(1, 0), 9);
        due.is("of(1, 2)", x.of(1, 2), 1);
        due.is("of(2, 2)", x.of(2, 2), 3);
        due.is("the tape is empty then", x.count(5), 0);
        due.is("nothing can be undone", x.count(4), 0);
        due.promise(9, "burrs");
        due.is("burrs()", x.burrs(), 5);
        due.is("refused", x.row(), -6);
        due.is("burrs() stays", x.burrs(), 5);
        due.is("room for five", Due.tape(x, "\0\0\0".repeat(7)).row(), 5);
        due.is("no room for two", x.burrs(), 2);
        x.pass();
        due.is("burrs alone", Due.tape(x, "\1").row(), 0);
        due.is("three bytes are one", Due.tape(new HedgeCouncil(), "\1\2\0").row(), 1);
        due.is("two bytes are none", Due.tape(new HedgeCouncil(), "\1\2").row(), 0);
        due.is("a full tape", Due.tape(new HedgeCouncil(), "\1\2\0".repeat(133) + "\1").row(), 8);
        due.is("burrs()", x.burrs(), 1);
        due.is("nothing can be undone behind it, either", x.count(4), 0);
    }

    private static void law() {
        due.promise(10, "law");
        HedgeCouncil x = Due.council(1, 3);
        x.pass();
        due.is("the first", Due.law(x, "shuts"), 0);
        due.is("the tape is empty then", x.count(5), 0);
        due.is("no text", x.law(), -6);
        due.is("fault at the end", x.fault(), 0);
        due.is("blanks alone", Due.law(x, "   "), -6);
        due.is("fault at the end", x.fault(), 3);
        due.is("the tape is empty then, too", x.count(5), 0);
        for (int i = 1; i < 6; i++) due.is("another one", Due.law(x, "needs " + i), i);
        due.is("no room, ahead of reading it", Due.law(x, "what"), -5);
        due.is("the tape is empty then, too", x.count(5), 0);
        due.is("that fault is none of its own", x.fault(), -1);
        due.is("count(3)", x.count(3), 6);
        due.is("what can be undone stays", x.count(4), 1);
        for (int i = 1; i < 6; i++) {
            x.force(i);
            due.is("each is as it was told", x.of(0, 5), i);
        }
    }

    private static void orders() {
        due.promise(11, "orders");
        HedgeCouncil x = Due.line(3);
        due.is("orders()", Due.orders(x, "coax 0;pass times 2;touch 0;tempt 1 to 9"), 5);
        due.is("later(0)", x.later(0), 6);
        due.is("of(1, 0)", x.of(1, 0), 9);
        due.is("of(2, 4)", x.of(2, 4), 2);
        due.is("count(4)", x.count(4), 5);
        due.is("each time the if is asked", Due.orders(x, "pass times 20 if minute < 5"), 3);
        due.is("count(12)", x.count(12), 5);
        due.is("done", Due.orders(x, "pass;touch 0;tempt 2 to done;pass times 9 if done < 5"), 5);
        due.is("of(2, 0)", x.of(2, 0), 2);
        due.is("latest: none as yet", Due.orders(x, "tempt 0 to 7 + latest;touch latest"), -3);
        due.is("stopped()", x.stopped(), 1);
        due.is("all is as it was", x.of(0, 0), 1);
        due.is("latest: how many are open", Due.orders(x, "pass;touch latest;touch 0"), 3);
        due.is("all", Due.orders(x, "coax 0;touch all - 1 - 1;touch 0"), 3);
        due.is("want, still, is", Due.orders(x, "touch want 2;touch still 2;touch is 2;touch is 0"), 4);
        HedgeCouncil w = Due.council(2, 1);
        w.tempt(1, 5);
        w.pass();
        w.coax(1);
        w.pass();
        w.touch(0);
        w.pass();
        due.is("want of each", Due.orders(w, "pass if want 0 = 1 and want 1 = 5 and want 2 = 0 - 1"), 1);
        due.is("still of each", Due.orders(w, "pass if still 0 = 2 and still 1 = 4 and still 7 = 0 - 1"), 1);
        due.is("is of each", Due.orders(w, "pass if is 0 = 0 and is 1 = 1 and is 2 = 0 - 1"), 1);
        due.is("minute, done, latest, all", Due.orders(w, "pass if minute = 6 and done = 0 and latest = 0 - 1 and all = 1;"
            + "pass if minute = 7 and done = 1 and latest = 1"), 2);
        due.is("a tape of orders at its longest", Due.orders(w, "pass;" + " ".repeat(391) + "pass"), 2);
        due.is("-1 without such one", Due.orders(x, "touch want 7 + 1;touch still 3 + 1;touch is 5 + 1"), 3);
        due.is("a broken test: not run", Due.orders(x, "touch 0 if 1/0=1;touch 0 if 1=1 or 1/0=1;touch 0 if 1=2 and 1/0=1"), 1);
        due.is("a broken sum", Due.orders(x, "touch 0;touch 1/0"), -3);
        due.is("stopped()", x.stopped(), 1);
        due.is("it can't be, if it isn't asked", Due.orders(x, "touch 9 if 1=2"), 0);
        HedgeCouncil y = Due.line(2);
        for (int i = 0; i < 3; i++) y.pass();
        due.is("too many minutes", Due.orders(y, "tempt 0 to 5;pass times 20;coax 1;pass times 20;coax 1"), -3);
        due.is("stopped()", y.stopped(), 4);
        due.is("none was run", y.count(12), 3);
        due.is("what can be undone is as it was", y.count(4), 3);
        due.is("undo()", y.undo(), 3);
        due.is("count(12)", y.count(12), 2);
        due.is("no refusals but its own", y.count(8), 1);
        y.terms(0, 998);
        due.is("beyond the last minute", Due.orders(y, "pass;pass"), -3);
        due.is("up to the last minute", Due.orders(y, "pass"), 1);
        due.is("no text", y.orders(), -6);
        due.is("fault()", y.fault(), 0);
        due.is("blanks alone", Due.orders(y, "  "), -6);
        due.is("fault()", y.fault(), 2);
        due.is("a law is no order", Due.orders(y, "shuts"), -6);
        due.is("the tape is empty then", y.count(5), 0);
        due.is("16 are kept", Due.orders(Due.council(1, 1), "touch 0 times 20"), 20);
        HedgeCouncil z = Due.council(1, 1);
        Due.orders(z, "touch 0 times 20");
        due.is("16 are kept", z.count(4), 16);
    }

    private static void faultAndStopped() {
        due.promise(12, "fault");
        HedgeCouncil x = new HedgeCouncil();
        Due.law(x, "shuts shuts");
        due.is("fault()", x.fault(), 6);
        Due.orders(x, "pass times 2");
        due.is("none behind orders that are fine", x.fault(), -1);
        Due.orders(x, "pass;");
        due.is("fault()", x.fault(), 5);
        Due.tape(x, "\0\0\0").row();
        due.is("others leave it", x.fault(), 5);
        Due.law(x, "shuts");
        due.is("none behind a law that is fine", x.fault(), -1);
        due.promise(13, "stopped");
        due.is("none", x.stopped(), -1);
        Due.orders(x, "pass;pass;coax 1");
        due.is("stopped()", x.stopped(), 2);
        Due.law(x, "shuts");
        due.is("a law leaves it", x.stopped(), 2);
        due.is("one that can't be is no fault", x.fault(), -1);
        Due.orders(x, "pass;pass");
        due.is("none behind orders that are fine", x.stopped(), -1);
        Due.orders(x, "touch 5");
        due.is("stopped()", x.stopped(), 0);
        Due.orders(x, "touch");
        due.is("none behind orders that can't be read", x.stopped(), -1);
    }

    private static void force() {
        due.promise(14, "force");
        HedgeCouncil x = Due.council(1, 3);
        due.is("no such law", x.force(0), -2);
        Due.law(x, "needs 7");
        Due.law(x, "needs 8");
        x.pass();
        due.is("force(1)", x.force(1), -1);
        due.is("of(0, 5)", x.of(0, 5), 8);
        due.is("count(11)", x.count(11), 1);
        due.is("force(0)", x.force(0), 1);
        due.is("of(0, 5)", x.of(0, 5), 7);
        due.is("force(2)", x.force(2), -2);
        due.is("force(-2)", x.force(-2), -2);
        due.is("force(far off)", x.force(MOST), -2);
        due.is("force(NONE)", x.force(-1), 0);
        due.is("status() of an answer -1", x.force(-1) + x.status(), -1);
        due.is("of(0, 5)", x.of(0, 5), 3);
        due.is("what can be undone stays", x.count(4), 1);
    }

    private static void touch() {
        due.promise(15, "touch");
        HedgeCouncil x = Due.council(2, 1);
        x.coax(1);
        x.pass();
        due.is("an open one", x.touch(1), 1);
        due.is("is shut", x.of(1, 3), 0);
        due.is("still for 0", x.of(1, 4), 0);
        due.is("others go on", x.of(0, 4), 1);
        due.is("a shut one", x.touch(0), 0);
        due.is("still for 0", x.of(0, 4), 0);
        due.is("it can be undone", x.count(4), 4);
        due.is("touch(2)", x.touch(2), -2);
        due.is("touch(-1)", x.touch(-1), -2);
        due.is("touch(far off)", x.touch(LEAST), -2);
    }

    private static void coax() {
        due.promise(16, "coax");
        HedgeCouncil x = Due.council(2, 1);
        x.pass();
        due.is("coax(1)", x.coax(1), 1);
        due.is("coax(0)", x.coax(0), 2);
        due.is("still stays", x.of(0, 4), 1);
        due.is("it is open", x.coax(0), -3);
        due.is("coax(2)", x.coax(2), -2);
        due.is("coax(-1)", x.coax(-1), -2);
        due.is("coax(far off)", x.coax(MOST), -2);
        due.is("count(4)", x.count(4), 3);
    }

    private static void tempt() {
        due.promise(17, "tempt");
        HedgeCouncil x = Due.council(1, 4);
        due.is("tempt(0, 9)", x.tempt(0, 9), 4);
        due.is("tempt(0, 0)", x.tempt(0, 0), 9);
        due.is("of(0, 0)", x.of(0, 0), 0);
        due.is("it wants that", x.tempt(0, 0), -3);
        due.is("tempt(1, 3)", x.tempt(1, 3), -2);
        due.is("tempt(1, 10)", x.tempt(1, 10), -1);
        due.is("tempt(0, -1)", x.tempt(0, -1), -1);
        due.is("far off", x.tempt(MOST, LEAST), -1);
        due.is("count(4)", x.count(4), 2);
    }

    private static void pass() {
        due.promise(18, "pass");
        HedgeCouncil x = Due.line(3);
        x.coax(0);
        due.is("pass()", x.pass(), 2);
        due.is("all asked as it was ahead", x.later(0), 3);
        due.is("pass()", x.pass(), 3);
        due.is("count(12)", x.count(12), 2);
        due.is("of(0, 4)", x.of(0, 4), 2);
        Due.law(x, "wants want + who;shuts if still > 1 and who = 1;needs 9");
        x.force(0);
        due.is("pass()", x.pass(), 2);
        due.is("later(0)", x.later(0), 5);
        due.is("of(2, 0)", x.of(2, 0), 3);
        x.terms(0, 998);
        due.is("pass()", x.pass(), 2);
        due.is("at 999 it can't be", x.pass(), -3);
        due.is("count(12)", x.count(12), 999);
        due.is("of(0, 4)", x.of(0, 4), 4);
        HedgeCouncil y = Due.council(1, 1);
        for (int i = 0; i < 120; i++) y.pass();
        due.is("still for 99 at most", y.of(0, 4), 99);
        due.is("without hedgehogs", new HedgeCouncil().pass(), 0);
    }

    private static void undo() {
        due.promise(19, "undo");
        HedgeCouncil x = Due.line(2);
        due.is("there is none", x.undo(), -3);
        x.coax(0);
        x.pass();
        x.tempt(1, 7);
        x.touch(0);
        due.is("touch", x.undo(), 0);
        due.is("of(0, 3)", x.of(0, 3), 1);
        due.is("of(0, 4)", x.of(0, 4), 1);
        due.is("tempt", x.undo(), 2);
        due.is("of(1, 0)", x.of(1, 0), 1);
        due.is("pass", x.undo(), 3);
        due.is("later(0)", x.later(0), 1);
        due.is("count(12)", x.count(12), 0);
        due.is("of(0, 4)", x.of(0, 4), 0);
        due.is("coax", x.undo(), 1);
        due.is("later(0)", x.later(0), 0);
        due.is("there is none", x.undo(), -3);
        for (int i = 0; i < 20; i++) x.pass();
        due.is("16 are kept", x.count(4), 16);
        for (int i = 0; i < 16; i++) due.is("undo()", x.undo(), 3);
        due.is("there is none", x.undo(), -3);
        due.is("count(12)", x.count(12), 4);
        Due.orders(x, "coax 1;pass");
        due.is("by orders, too", x.undo(), 3);
        due.is("by orders, too", x.undo(), 1);
        x.pass();
        x.image(0);
        due.is("an image leaves it", x.count(4), 1);
        x.seen(0, 1);
        x.forget();
        x.councils(1, 1);
        due.is("so do these", x.count(4), 1);
        x.back(1);
        due.is("so does back() that is refused", x.count(4), 1);
        x.back(0);
        due.is("nothing behind back()", x.undo(), -3);
    }

    private static void later() {
        due.promise(20, "later");
        HedgeCouncil x = Due.line(8);
        x.coax(0);
        for (int n = 0; n <= 60; n++) due.is("later(" + n + ")", x.later(n), Math.min(255, (2 << n) - 1L & 255 | (n > 6 ? 255 : 0)));
        due.is("later(61)", x.later(61), -1);
        due.is("later(-1)", x.later(-1), -1);
        due.is("later(far off)", x.later(LEAST), -1);
        due.is("on paper", x.count(12), 0);
        HedgeCouncil y = Due.council(1, 9);
        Due.law(y, "needs 0 if minute = 1000 + 50");
        y.force(0);
        y.terms(0, 999);
        due.is("later(51)", y.later(51), 0);
        due.is("minute goes on beyond 999", y.later(52), 1);
        due.is("opens(0)", y.opens(0), 52);
        HedgeCouncil z = Due.council(1, 3);
        Due.law(z, "wants want - 1");
        z.force(0);
        due.is("wants alone change", z.opens(0), 4);
        due.is("wants alone change", z.later(4), 1);
        due.is("wants alone change", z.later(3), 0);
    }

    private static void opensTogetherAgain() {
        due.promise(21, "opens");
        HedgeCouncil x = Due.line(3);
        due.is("not in 60", x.opens(0), -1);
        x.coax(0);
        due.is("opens(0)", x.opens(0), 0);
        due.is("opens(2)", x.opens(2), 2);
        due.is("opens(3)", x.opens(3), -1);
        due.is("opens(-1)", x.opens(-1), -1);
        HedgeCouncil y = Due.council(1, 9);
        Due.law(y, "needs 0 if still > 58");
        Due.law(y, "needs 0 if still > 59");
        y.force(0);
        due.is("just in 60", y.opens(0), 60);
        due.promise(22, "together");
        due.is("together()", x.together(), 2);
        due.is("just in 60", y.together(), 60);
        y.force(1);
        due.is("not in 60", y.together(), -1);
        due.is("no hedgehogs", new HedgeCouncil().together(), 0);
        due.promise(23, "again");
        due.is("not in 60", x.again(), -1);
        due.is("at once", y.again(), 1);
        HedgeCouncil v = Due.council(1, 9);
        Due.law(v, "shuts if still = 59;needs 0 if still = 0");
        Due.law(v, "shuts if still = 60;needs 0 if still = 0");
        v.force(0);
        due.is("just in 60", v.again(), 60);
        v.force(1);
        due.is("not in 60", v.again(), -1);
        HedgeCouncil z = Due.council(2, 0);
        Due.law(z, "shuts if minute % 3 = 0;needs 9 if minute % 3 > 0");
        z.force(0);
        due.is("again()", z.again(), 4);
        z.terms(0, 1);
        due.is("again()", z.again(), 1);
        due.is("no hedgehogs", new HedgeCouncil().again(), 1);
    }

    private static void seeds() {
        due.promise(24, "seeds");
        HedgeCouncil x = Due.line(4);
        due.is("seeds(0)", x.seeds(0), 1);
        due.is("seeds(1)", x.seeds(1), 1);
        x.hedgehog(1, 0);
        x.hedgehog(1, 0);
        x.watch(4, 5, 1);
        x.watch(5, 4, 1);
        due.is("seeds(0)", x.seeds(0), 2);
        due.is("the lowest", x.seeds(1), 17);
        x.coax(5);
        due.is("those that are open are not coaxed", x.seeds(1), 1);
        x.coax(0);
        due.is("none", x.seeds(0), 0);
        due.is("none", x.seeds(1), 0);
        due.is("seeds(2)", x.seeds(2), -1);
        due.is("seeds(-1)", x.seeds(-1), -1);
        HedgeCouncil y = Due.council(3, 9);
        Due.law(y, "shuts");
        y.force(0);
        due.is("together at minute 0", y.seeds(1), 7);
        HedgeCouncil z = Due.council(8, 9);
        due.is("all of them", z.seeds(0), 8);
        due.is("all of them", z.seeds(1), 255);
    }

    private static void seedsFor() {
        due.promise(25, "seedsFor");
        HedgeCouncil x = Due.council(4, 2);
        x.watch(3, 1, 1);
        x.watch(3, 2, 1);
        x.watch(3, 0, 1);
        due.is("seedsFor(3, 0)", x.seedsFor(3, 0), 2);
        due.is("the lowest", x.seedsFor(3, 1), 3);
        due.is("it can't be by others", x.seedsFor(0, 0), -1);
        due.is("it can't be by others", x.seedsFor(0, 1), -1);
        x.coax(2);
        due.is("seedsFor(3, 1)", x.seedsFor(3, 1), 1);
        x.coax(3);
        due.is("it is open", x.seedsFor(3, 0), 0);
        due.is("it is open", x.seedsFor(3, 1), 0);
        due.is("what 2", x.seedsFor(3, 2), -1);
        due.is("what -1", x.seedsFor(3, -1), -1);
        due.is("one 4", x.seedsFor(4, 0), -1);
        due.is("one -1", x.seedsFor(-1, 0), -1);
    }

    private static void spread() {
        due.promise(26, "spread");
        HedgeCouncil x = Due.line(4);
        due.is("spread(1)", x.spread(1), 14);
        x.coax(2);
        due.is("those that open anyhow aside", x.spread(1), 2);
        due.is("one that is open", x.spread(2), 12);
        due.is("spread(4)", x.spread(4), -1);
        due.is("spread(-1)", x.spread(-1), -1);
        HedgeCouncil y = Due.council(1, 9);
        for (int i = 0; i < 5; i++) y.pass();
        y.coax(0);
        Due.law(y, "shuts if still > 64;needs 0 if still = 64");
        y.force(0);
        due.is("still as it is", y.spread(0), 0);
        Due.law(y, "shuts if still > 99");
        y.force(1);
        due.is("still as it is", y.spread(0), 1);
    }

    private static void held() {
        due.promise(27, "held");
        HedgeCouncil x = Due.council(4, 1);
        for (int i = 0; i < 3; i++) x.watch(3, i, 1);
        due.is("it stays shut anyhow", x.held(3, 0), 0);
        x.coax(1);
        due.is("one that is open", x.held(3, 0), 1);
        due.is("one that is open", x.held(3, 1), 2);
        x.tempt(2, 0);
        due.is("whatever it needs", x.held(3, 0), 2);
        due.is("whatever it needs", x.held(3, 1), 6);
        due.is("it can't be", x.held(2, 0), -1);
        due.is("it is open", x.held(1, 0), -1);
        due.is("what 2", x.held(3, 2), -1);
        due.is("what -1", x.held(3, -1), -1);
        due.is("one 4", x.held(4, 0), -1);
        due.is("one -1", x.held(-1, 1), -1);
        HedgeCouncil y = Due.line(4);
        y.coax(0);
        due.is("the lowest", y.held(3, 1), 1);
        due.is("nobody else is held", y.held(1, 1), 1);
        HedgeCouncil z = Due.council(8, 1);
        for (int i = 1; i < 8; i++) {
            z.watch(0, i, 1);
            z.coax(i);
        }
        due.is("all others", z.held(0, 0), 7);
        due.is("all others", z.held(0, 1), 254);
    }

    private static void chain() {
        due.promise(28, "chain");
        HedgeCouncil x = Due.council(6, 1);
        x.watch(4, 0, 1);
        x.watch(1, 0, 1);
        x.watch(2, 4, 1);
        x.watch(3, 1, 1);
        x.watch(5, 3, 1);
        x.watch(5, 2, 1);
        x.watch(0, 5, 1);
        due.is("how many", x.chain(0, 5, -1), 3);
        due.is("the first as a row", x.chain(0, 5, 0), 1);
        due.is("the first as a row", x.chain(0, 5, 1), 3);
        due.is("the other one", x.chain(0, 5, 2), 5);
        due.is("not so many", x.chain(0, 5, 3), -1);
        due.is("i -2", x.chain(0, 5, -2), -1);
        due.is("the fewest", x.chain(5, 0, -1), 1);
        due.is("to oneself", x.chain(0, 0, -1), 0);
        due.is("to oneself", x.chain(0, 0, 0), -1);
        x.watch(0, 5, 0);
        due.is("there is none", x.chain(5, 0, -1), -1);
        due.is("there is none", x.chain(5, 0, 0), -1);
        due.is("from 6", x.chain(6, 0, -1), -1);
        due.is("to 6", x.chain(0, 6, -1), -1);
        HedgeCouncil v = Due.council(3, 1);
        v.watch(0, 2, 1);
        v.watch(1, 0, 1);
        due.is("by way of 0", v.chain(2, 1, 0), 0);
        due.is("by way of 0", v.chain(2, 1, 1), 1);
        due.is("to -1", x.chain(0, -1, -1), -1);
        due.is("to itself that isn't there", x.chain(6, 6, -1), -1);
        HedgeCouncil y = Due.line(8);
        due.is("the longest", y.chain(0, 7, -1), 7);
        due.is("the longest", y.chain(0, 7, 6), 7);
        Due.law(y, "needs 9");
        y.force(0);
        due.is("laws aside", y.chain(0, 7, 0), 1);
    }

    private static void knotsAndHeads() {
        due.promise(29, "knots");
        HedgeCouncil x = Due.line(5);
        due.is("each alone", x.knots(), 5);
        x.watch(1, 3, 1);
        due.is("three in one", x.knots(), 3);
        due.is("no hedgehogs", new HedgeCouncil().knots(), 0);
        due.promise(30, "heads");
        due.is("heads(0)", x.heads(0), 1);
        due.is("heads(1)", x.heads(1), 1);
        x.watch(1, 0, 0);
        due.is("one of a knot", x.heads(0), 2);
        due.is("the lowest", x.heads(1), 3);
        x.watch(0, 4, 1);
        due.is("one of a knot", x.heads(1), 2);
        due.is("heads(2)", x.heads(2), -1);
        due.is("heads(-1)", x.heads(-1), -1);
        due.is("each alone", Due.council(8, 1).heads(0), 8);
        due.is("each alone", Due.council(8, 1).heads(1), 255);
        due.is("no hedgehogs", new HedgeCouncil().heads(1), 0);
        due.is("no hedgehogs", new HedgeCouncil().heads(5), -1);
    }

    private static void seenAndForget() {
        due.promise(31, "seen");
        HedgeCouncil x = Due.council(1, 1);
        x.pass();
        for (int i = 1; i <= 6; i++) due.is("seen", x.seen(i * 10, i % 2), i);
        due.is("a seventh", x.seen(0, 0), -5);
        due.is("a seventh that can't be", x.seen(0, 2), -1);
        due.is("seen(61, 0)", x.seen(61, 0), -1);
        due.is("seen(-1, 0)", x.seen(-1, 0), -1);
        due.is("seen(0, -1)", x.seen(0, -1), -1);
        due.is("count(2)", x.count(2), 6);
        due.is("what can be undone stays", x.count(4), 1);
        due.promise(32, "forget");
        due.is("forget()", x.forget(), 6);
        due.is("forget()", x.forget(), 0);
        due.is("count(2)", x.count(2), 0);
        due.is("seen(60, 1)", x.seen(60, 1), 1);
    }

    private static void canBeAndLook() {
        due.promise(33, "canBe");
        HedgeCouncil x = Due.line(4);
        x.coax(0);
        due.is("nothing seen", x.canBe(), 15);
        x.seen(2, 1);
        due.is("open at 2", x.canBe(), 7);
        x.seen(1, 0);
        due.is("and shut at 1", x.canBe(), 4);
        x.pass();
        due.is("from now on", x.canBe(), 8);
        x.seen(60, 0);
        due.is("none", x.canBe(), 0);
        HedgeCouncil y = Due.line(4);
        y.coax(1);
        y.seen(0, 1);
        due.is("open now", y.canBe(), 2);
        y.forget();
        y.seen(0, 0);
        due.is("shut now", y.canBe(), 13);
        y.seen(60, 1);
        due.is("and open at 60", y.canBe(), 12);
        due.promise(34, "look");
        due.is("it can be none", x.look(0), -1);
        due.is("it can be none", x.look(1), -1);
        x.forget();
        due.is("two of four", x.look(0), 0);
        due.is("two of four", x.look(1), 2);
        x.undo();
        due.is("at minute 1", x.look(0), 1);
        due.is("at minute 1", x.look(1), 2);
        due.is("look(2)", x.look(2), -1);
        due.is("look(-1)", x.look(-1), -1);
        due.is("one alone", Due.council(1, 1).look(1), 1);
        HedgeCouncil z = Due.council(2, 9);
        Due.law(z, "needs 0 if still = 59 and who = 0");
        Due.law(z, "needs 0 if still = 60 and who = 0");
        z.force(0);
        due.is("just at 60", z.look(0), 60);
        due.is("just at 60", z.look(1), 1);
        z.force(1);
        due.is("not in 60: the least", z.look(0), 0);
        due.is("not in 60", z.look(1), 2);
        due.is("no hedgehogs", new HedgeCouncil().look(1), -1);
    }

    private static void few() {
        due.promise(35, "few");
        HedgeCouncil x = new HedgeCouncil();
        due.is("few(1, 3)", x.few(1, 3), 729000000000L);
        due.is("few(2, 3)", x.few(2, 3), 972000000000L);
        due.is("few(1, 99), cut each time", x.few(1, 99), cutTimes(9, 99));
        due.is("few(20, 0)", x.few(20, 0), 1000000000000L);
        due.isSo("few(20, 99)", x.few(20, 99) > 990000000000L && x.few(20, 99) < 1000000000000L);
        x.terms(1, 10);
        due.is("all start", x.few(3, 3), 0);
        due.is("all start", x.few(4, 3), 1000000000000L);
        x.terms(1, 0);
        due.is("none starts", x.few(1, 99), 1000000000000L);
        due.is("few(0, 0)", x.few(0, 0), -1);
        due.is("few(21, 0)", x.few(21, 0), -1);
        due.is("few(1, -1)", x.few(1, -1), -1);
        due.is("few(1, 100)", x.few(1, 100), -1);
        due.is("far off", x.few(MOST, LEAST), -1);
    }

    private static long cutTimes(int tenths, int times) {
        long part = 1000000000000L;
        for (int i = 0; i < times; i++) part = part * tenths / 10;
        return part;
    }

    private static void compare() {
        due.promise(36, "compare");
        HedgeCouncil x = Due.line(4);
        x.coax(0);
        Due.law(x, "needs 0");
        Due.law(x, "shuts;needs 9");
        due.is("none in force, none asked", x.compare(-1), 2);
        due.is("compare(0)", x.compare(0), 4);
        due.is("compare(1)", x.compare(1), 0);
        x.force(1);
        due.is("compare(-1)", x.compare(-1), 2);
        due.is("compare(1)", x.compare(1), 0);
        due.is("on paper", x.count(1), 1);
        due.is("compare(2)", x.compare(2), -1);
        due.is("compare(-2)", x.compare(-2), -1);
        due.is("far off", x.compare(MOST), -1);
    }

    private static void councilsAndDrawn() {
        due.promise(37, "councils");
        HedgeCouncil x = new HedgeCouncil();
        due.is("no hedgehogs", x.councils(5, 5), -3);
        due.is("a number first", x.councils(-1, 5), -1);
        x = Due.council(3, 9);
        // The draws: 0, 1, 1 (it opens); 1, 0, 2 (it wants 0); 2, 1, 2 (it wants 1).
        due.is("one", x.councils(0, 1), 1);
        due.is("two", x.councils(0, 2), 3);
        due.is("three", x.councils(0, 3), 3);
        due.is("on paper", x.count(1) + x.count(12) + x.count(4), 0);
        // 1, 4, 1 (it opens); 1, 3, 0 (it is touched); 0, 4, 3 (nothing).
        HedgeCouncil t = Due.council(3, 9);
        t.pass();
        due.is("opened", t.councils(1066, 1), 2);
        due.is("still stays", t.drawn(1, 2), 2);
        due.is("touched", t.councils(1066, 2), 0);
        due.is("still for 0, and a minute", t.drawn(1, 2), 1);
        due.is("nothing", t.councils(1066, 3), 0);
        due.is("the others go on", t.drawn(0, 2), 4);
        due.promise(38, "drawn");
        due.is("drawn(0, 1)", x.drawn(0, 1), 1);
        due.is("drawn(2, 1)", x.drawn(2, 1), 0);
        due.is("drawn(0, 2)", x.drawn(0, 2), 3);
        due.is("drawn(0, 0)", x.drawn(0, 0), 9);
        due.is("drawn(1, 0)", x.drawn(1, 0), 0);
        due.is("drawn(2, 0)", x.drawn(2, 0), 1);
        due.is("refused", x.councils(0, 61), -1);
        due.is("the latest stays", x.drawn(0, 2), 3);
        x.hedgehog(1, 1);
        due.is("one that was not there", x.drawn(3, 0), -1);
        due.is("drawn(0, 3)", x.drawn(0, 3), -1);
        due.is("drawn(0, -1)", x.drawn(0, -1), -1);
        due.is("drawn(-1, 0)", x.drawn(-1, 0), -1);
        due.promise(37, "councils");
        due.is("councils(0, 0)", x.councils(0, 0), -1);
        due.is("councils(1000001, 1)", x.councils(1000001, 1), -1);
        due.isSo("councils(1000000, 60)", x.councils(1000000, 60) >= 0);
        due.is("sixty minutes, no more", Math.max(x.drawn(0, 2), x.drawn(1, 2)) <= 60 ? 1 : 0, 1);
        HedgeCouncil y = Due.council(2, 9);
        y.terms(0, 998);
        due.is("at minute 999 it ends", y.councils(0, 60), 2);
        due.is("one minute", y.drawn(0, 2), 1);
        y.terms(0, 999);
        due.is("at minute 999 it ends", y.councils(0, 60), 0);
        due.is("none", y.drawn(0, 2), 0);
        HedgeCouncil z = Due.council(1, 9);
        due.is("one alone", z.councils(0, 1), 1);
        due.is("one alone", z.drawn(0, 2), 1);
    }

    private static void imageAndBack() {
        due.promise(39, "image");
        HedgeCouncil x = Due.line(2);
        due.is("image(2)", x.image(2), -1);
        due.is("image(-1)", x.image(-1), -1);
        Due.law(x, "needs 7");
        x.force(0);
        x.seen(3, 1);
        x.coax(0);
        x.terms(3, 4);
        x.touch(1);
        due.is("image(0)", x.image(0), 0);
        due.is("what can be undone stays", x.count(4), 1);
        Due.law(x, "needs 8");
        due.is("image(1)", x.image(1), 0);
        due.promise(40, "back");
        due.is("back(2)", x.back(2), -1);
        due.is("back(-1)", x.back(-1), -1);
        x.hedgehog(1, 1);
        x.watch(0, 1, 1);
        x.forget();
        x.tempt(0, 8);
        x.pass();
        x.councils(3, 3);
        Due.law(x, "what");
        Due.orders(x, "pass;touch 9");
        Due.tape(x, "\1").row();
        Due.tape(x, "abc");
        due.is("back(0)", x.back(0), 0);
        due.is("hedgehogs", x.count(0), 2);
        due.is("open", x.later(0), 1);
        due.is("watches", x.of(0, 2), 0);
        due.is("wants", x.of(0, 0), 1);
        due.is("still", x.of(0, 4), 0);
        due.is("seen", x.count(2), 1);
        due.is("laws", x.count(3), 1);
        due.is("force", x.count(11), 0);
        due.is("minute", x.count(12), 0);
        due.is("mood", x.count(15), 4);
        due.is("nothing can be undone", x.count(4), 0);
        due.is("the tape stays", x.count(5), 3);
        due.is("fault stays", x.fault(), -1);
        due.is("burrs stay", x.burrs(), 1);
        due.is("where orders stopped stays", x.stopped(), 1);
        due.is("the latest councils stay", x.drawn(2, 0) == -1 ? 0 : 1, 1);
        due.is("refusals stay", x.count(10), 1);
        x.end(0);
        due.is("another law in the same place", Due.law(x, "needs 5"), 1);
        due.is("back(1)", x.back(1), 0);
        due.is("its laws are as they were", x.force(1), 0);
        due.is("its laws are as they were", x.of(0, 5), 8);
        x.coax(1);
        due.is("images stay", x.back(1), 0);
        due.is("images stay", x.later(0), 1);
        due.is("images stay", x.count(11), 0);
        HedgeCouncil z = new HedgeCouncil();
        z.hedgehog(1, 7);
        z.terms(0, 11);
        z.terms(1, 2);
        z.terms(2, 3);
        z.terms(3, 4);
        z.seen(0, 0);
        z.image(0);
        z.image(1);
        z.terms(0, 21);
        z.terms(1, 5);
        z.terms(2, 6);
        z.terms(3, 7);
        z.forget();
        z.seen(9, 1);
        z.back(0);
        due.is("shy", z.of(0, 1), 7);
        due.is("minute", z.count(12), 11);
        due.is("starts", z.few(1, 1), 800000000000L);
        due.is("hush", z.count(14), 3);
        due.is("mood", z.count(15), 4);
        due.is("what was seen", z.canBe(), 1);
        HedgeCouncil u = new HedgeCouncil();
        u.image(0);
        u.hedgehog(3, 7);
        Due.law(u, "needs shy");
        u.force(0);
        u.seen(0, 1);
        u.image(1);
        due.is("back to nothing", u.back(0), 0);
        due.is("nothing", u.count(0) + u.count(2) + u.count(3) + u.count(11), -1);
        u.hedgehog(2, 1);
        due.is("a new one is shut", u.of(0, 3) + u.of(0, 2), 0);
        Due.law(u, "needs 4");
        due.is("and on again", u.back(1), 0);
        due.is("shy", u.of(0, 1), 7);
        due.is("the first law, too", u.of(0, 5), 7);
        due.is("what was seen", u.canBe(), 0);
        u.forget();
        u.coax(0);
        Due.law(u, "shuts if still = 4");
        u.force(1);
        u.seen(3, 1);
        u.image(0);
        u.forget();
        u.seen(5, 1);
        due.is("it is shut at 5", u.canBe(), 0);
        u.back(0);
        due.is("it is open at 3", u.canBe(), 1);
        HedgeCouncil y = new HedgeCouncil();
        due.is("it was not kept", y.back(1), -2);
    }

    private static void count() {
        due.promise(41, "count");
        HedgeCouncil x = Due.line(3);
        x.coax(1);
        x.coax(2);
        x.seen(1, 1);
        Due.law(x, "shuts");
        Due.law(x, "shuts");
        x.force(1);
        x.feed(1, 2, 3, 4, 5);
        x.hedgehog(-1, 0);
        x.touch(8);
        x.force(8);
        x.coax(1);
        x.tempt(0, 1);
        x.pass();
        x.undo();
        x.undo();
        x.undo();
        x.undo();
        for (int i = 0; i < 6; i++) x.seen(0, 0);
        x.row();
        x.row();
        long[] all = {3, 0, 6, 2, 0, 0, 1, 2, 3, 1, 1, 1, 0, 1, 0, 0};
        for (int what = 0; what < 16; what++) due.is("count(" + what + ")", x.count(what), what == 0 ? x.count(0) : all[what]);
        due.is("count(16)", x.count(16), -1);
        due.is("count(-1)", x.count(-1), -1);
        due.is("count(far off)", x.count(LEAST), -1);
        x.image(0);
        x.touch(-1);
        x.back(0);
        due.is("images do not keep that", x.count(7), 3);
        due.is("answers that are none are no refusals", x.of(9, 9) + x.later(99) + x.end(-1) + x.count(6), -2);
    }

    private static void status() {
        due.promise(42, "status");
        HedgeCouncil x = Due.council(1, 1);
        due.is("fine", x.status(), 0);
        int[] refusals = {
            x.hedgehog(10, 0), x.status(), x.watch(0, 1, 1), x.status(), x.terms(9, 9), x.status(), x.row(), x.status(),
            x.law(), x.status(), x.orders(), x.status(), x.force(3), x.status(), x.touch(3), x.status(), x.coax(3), x.status(),
            x.tempt(0, 1), x.status(), x.undo(), x.status(), x.seen(61, 1), x.status(), x.councils(0, 0), x.status(),
            x.image(2), x.status(), x.back(1), x.status()};
        for (int i = 0; i < refusals.length; i += 2) {
            due.is("the call " + i / 2, refusals[i] < 0 ? 1 : 0, 1);
            due.is("the call " + i / 2, refusals[i + 1], refusals[i]);
        }
        x.of(0, 9);
        x.later(61);
        x.end(-1);
        x.feed(0, 0, 0, 0, 0);
        x.end(0);
        x.opens(4);
        x.forget();
        x.canBe();
        x.compare(5);
        x.few(0, 0);
        x.drawn(5, 5);
        x.count(99);
        due.is("others leave it", x.status(), -2);
        x.touch(0);
        due.is("fine", x.status(), 0);
        x.terms(0, 999);
        x.pass();
        due.is("pass()", x.status(), -3);
        x.image(0);
        due.is("fine", x.status(), 0);
        Due.orders(x, "pass");
        due.is("orders()", x.status(), -3);
        x.back(0);
        due.is("fine", x.status(), 0);
    }
}
