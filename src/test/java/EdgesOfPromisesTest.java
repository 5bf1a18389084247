/** Each sentence of the document's promises 1 to 42 that names a boundary case, with a test of its own. */
public final class EdgesOfPromisesTest {
    private static final Due due = new Due();
    private static final int MOST = Integer.MAX_VALUE;
    private static final int LEAST = Integer.MIN_VALUE;

    private EdgesOfPromisesTest() {
    }

    public static void main(String[] args) {
        anEmptyChamber();
        hedgehog();
        watch();
        of();
        terms();
        feed();
        end();
        row();
        burrs();
        law();
        orders();
        fault();
        stopped();
        force();
        touch();
        coax();
        tempt();
        pass();
        undo();
        undoAllKinds();
        undoWrapsAround();
        whatEndsUndoing();
        later();
        opens();
        together();
        again();
        seeds();
        seedsFor();
        spread();
        held();
        chain();
        knotsAndHeads();
        seenAndForget();
        canBeAndLook();
        few();
        compare();
        councils();
        drawn();
        image();
        back();
        whatImagesKeep();
        count();
        refusalsCounted();
        status();
        due.close();
    }

    private static void anEmptyChamber() {
        due.sentence("1", "An empty chamber");
        HedgeCouncil x = new HedgeCouncil();
        for (int h = -1; h <= 8; h++) {
            for (int what = 0; what <= 8; what++) due.is("of", x.of(h, what), -1);
            due.is("opens", x.opens(h), -1);
            due.is("spread", x.spread(h), -1);
            due.is("held", x.held(h, 0), -1);
            due.is("seedsFor", x.seedsFor(h, 0), -1);
            due.is("chain", x.chain(h, h, -1), -1);
            due.is("drawn", x.drawn(h, 0), -1);
        }
        int[] counts = {0, 0, 0, 0, 0, 0, 0, 0, 0, 0, 0, -1, 0, 1, 0, 0};
        for (int what = 0; what < 16; what++) due.is("count(" + what + ")", x.count(what), counts[what]);
        due.is("later", x.later(0), 0);
        due.is("later", x.later(60), 0);
        due.is("together", x.together(), 0);
        due.is("again", x.again(), 1);
        due.is("seeds", x.seeds(0), 0);
        due.is("seeds", x.seeds(1), 0);
        due.is("knots", x.knots(), 0);
        due.is("heads", x.heads(0), 0);
        due.is("heads", x.heads(1), 0);
        due.is("canBe", x.canBe(), 0);
        due.is("look", x.look(0), -1);
        due.is("look", x.look(1), -1);
        due.is("compare", x.compare(-1), 0);
        due.is("compare", x.compare(0), -1);
        due.is("few", x.few(1, 1), 900_000_000_000L);
        due.is("burrs", x.burrs(), 0);
        due.is("fault", x.fault(), -1);
        due.is("stopped", x.stopped(), -1);
        due.is("forget", x.forget(), 0);
        due.is("status", x.status(), 0);
        due.is("end", x.end(0), 0);
        due.is("end", x.end(1), -1);
        due.is("pass", x.pass(), 0);
        due.is("pass", x.count(12), 1);
        due.is("undo", x.undo(), 3);
        due.is("undo", x.undo(), -3);
        due.is("touch", x.touch(0), -2);
        due.is("councils", x.councils(0, 1), -3);
        due.is("NONE", HedgeCouncil.NONE, -1);
    }

    private static void hedgehog() {
        due.sentence("2", "A HEDGEHOG that WATCHES nobody: its number. -1; -5");
        HedgeCouncil x = new HedgeCouncil();
        due.is("the first", x.hedgehog(0, 0), 0);
        for (int i = 1; i < 7; i++) x.hedgehog(3, 3);
        due.is("the last", x.hedgehog(9, 9), 7);
        due.is("watches nobody", x.of(7, 2), 0);
        for (int h = 0; h < 7; h++) due.is("nobody watches it", x.of(h, 2), 0);
        due.is("no room", x.hedgehog(0, 0), -5);
        due.is("status()", x.status(), -5);
        due.is("can't be", x.hedgehog(-1, 9), -1);
        due.is("can't be", x.hedgehog(9, -1), -1);
        due.is("can't be", x.hedgehog(9, 10), -1);
        due.is("can't be", x.hedgehog(10, 9), -1);
        due.is("count(0)", x.count(0), 8);
    }

    private static void watch() {
        due.sentence("3", "One WATCHES another one, or not (1, 0): what it was");
        HedgeCouncil x = Due.council(8, 1);
        due.is("not, then so", x.watch(0, 7, 1), 0);
        due.is("so, then so", x.watch(0, 7, 1), 1);
        due.is("so, then not", x.watch(0, 7, 0), 1);
        due.is("not, then not", x.watch(0, 7, 0), 0);
        due.is("the last one", x.watch(7, 0, 1), 0);
        due.is("one way alone", x.of(0, 2), 0);
        due.is("one way alone", x.of(7, 2), 1);
        due.sentence("3", "-1 (itself, too); -2");
        due.is("itself", x.watch(0, 0, 1), -1);
        due.is("itself, not", x.watch(7, 7, 0), -1);
        due.is("is 2", x.watch(0, 1, 2), -1);
        due.is("is -1", x.watch(0, 1, -1), -1);
        due.is("is far off", x.watch(0, 1, LEAST), -1);
        due.is("is 2 of those not there", x.watch(8, 9, 2), -1);
        due.is("itself not there", x.watch(8, 8, 1), -1);
        due.is("itself -1", x.watch(-1, -1, 1), -1);
        due.is("one 8", x.watch(8, 0, 1), -2);
        due.is("one -1", x.watch(-1, 0, 1), -2);
        due.is("other 8", x.watch(0, 8, 1), -2);
        due.is("other -1", x.watch(0, -1, 1), -2);
        due.is("one far off", x.watch(MOST, 0, 1), -2);
        due.is("other far off", x.watch(0, LEAST, 1), -2);
        due.is("other 32", x.watch(0, 32, 1), -2);
        due.is("nobody more is watched", x.of(0, 2), 0);
        due.sentence("3", "It leaves what can be undone");
        x.pass();
        x.touch(1);
        x.watch(2, 3, 1);
        due.is("count(4)", x.count(4), 2);
        due.is("undo()", x.undo(), 0);
        due.is("it watches still", x.of(2, 2), 8);
    }

    private static void of() {
        due.sentence("4", "Of a HEDGEHOG WANT (what 0) .. (8: 1, 0). NONE");
        HedgeCouncil x = new HedgeCouncil();
        x.hedgehog(2, 3);
        x.hedgehog(7, 9);
        x.watch(1, 0, 1);
        x.coax(0);
        x.pass();
        Due.under(x, "needs 4;wants 6;shuts if who = 0");
        int[][] told = {{2, 3, 0, 1, 1, 4, 6, 1, 0}, {7, 9, 1, 0, 1, 4, 6, 0, 0}};
        for (int h = 0; h < 2; h++) for (int what = 0; what < 9; what++) due.is("of(" + h + ", " + what + ")", x.of(h, what), told[h][what]);
        due.is("what 9", x.of(0, 9), -1);
        due.is("what -1", x.of(0, -1), -1);
        due.is("what far off", x.of(0, MOST), -1);
        due.is("what far off", x.of(0, LEAST), -1);
        for (int what = 0; what < 9; what++) {
            due.is("one 2", x.of(2, what), -1);
            due.is("one -1", x.of(-1, what), -1);
            due.is("one 8", x.of(8, what), -1);
            due.is("one 32", x.of(32, what), -1);
        }
        x.force(-1);
        x.tempt(1, 1);
        due.is("would be open", x.of(1, 8), 1);
        due.is("is not yet", x.of(1, 3), 0);
        due.is("one that is open stays open", x.of(0, 8), 1);
    }

    private static void terms() {
        due.sentence("5", "A TERM: what it was. -1");
        HedgeCouncil x = Due.council(1, 9);
        int[] most = {999, 10, 9, 9};
        int[] was = {0, 1, 0, 0};
        for (int what = 0; what < 4; what++) {
            due.is("to the most", x.terms(what, most[what]), was[what]);
            due.is("the same", x.terms(what, most[what]), most[what]);
            due.is("one more", x.terms(what, most[what] + 1), -1);
            due.is("status()", x.status(), -1);
            due.is("one below", x.terms(what, -1), -1);
            due.is("as it was", x.count(12 + what), most[what]);
        }
        due.is("what 4", x.terms(4, 1), -1);
        due.is("what -1", x.terms(-1, 1), -1);
        due.is("MINUTE back to 0", x.terms(0, 0), 999);
        x.pass();
        due.is("a minute more", x.terms(0, 5), 1);
    }

    private static void feed() {
        due.sentence("6", "Twenty bytes come behind the TAPE, four of each number, the highest first: how many it has");
        HedgeCouncil x = new HedgeCouncil();
        due.is("20", x.feed(0x09080001, 0x02010304, 0x03050407, 0x06050f04, 0x031f0000), 20);
        x.end(18);
        due.is("each byte in its place", x.row(), 6);
        int[][] told = {{9, 8, 0}, {1, 2, 1}, {3, 4, 3}, {5, 4, 7}, {6, 5, 15}, {4, 3, 31}};
        for (int h = 0; h < 6; h++) for (int what = 0; what < 3; what++) due.is("of(" + h + ", " + what + ")", x.of(h, what), told[h][what]);
        HedgeCouncil high = Due.council(7, 1);
        due.is("bytes from 128 on", high.feed(0x80000000, 0xff0000ff, -1, LEAST, MOST), 20);
        due.is("bytes from 128 on are no wants", high.row(), 0);
        due.is("bytes from 128 on", high.burrs(), 7);
        HedgeCouncil behind = new HedgeCouncil();
        behind.feed(0x01010009, 0, 0, 0, 0);
        behind.end(4);
        due.is("behind what it has", behind.feed(0x08010000, 0, 0, 0, 0), 24);
        behind.end(6);
        due.is("behind what it has", behind.row(), 2);
        due.is("behind what it has", behind.of(1, 0) * 10 + behind.of(1, 1), 98);
        due.sentence("6", "NONE, if there would be more than 400");
        HedgeCouncil full = new HedgeCouncil();
        for (int i = 1; i <= 20; i++) due.is("feed", full.feed(0, 0, 0, 0, 0), 20 * i);
        due.is("420", full.feed(0, 0, 0, 0, 0), -1);
        due.is("count(5)", full.count(5), 400);
        full.end(381);
        due.is("401", full.feed(0, 0, 0, 0, 0), -1);
        due.is("count(5)", full.count(5), 381);
        full.end(380);
        due.is("400", full.feed(0, 0, 0, 0, 0), 400);
        due.is("that is no refusal", full.status() + full.count(6) + full.count(9), 0);
    }

    private static void end() {
        due.sentence("7", "The TAPE has its first n bytes alone: n");
        HedgeCouncil x = Due.council(1, 9);
        Due.tape(x, "touch 0;touch 7");
        due.is("all of them", x.end(15), 15);
        due.is("the first 7", x.end(7), 7);
        due.is("count(5)", x.count(5), 7);
        due.is("the first 7", x.orders(), 1);
        due.is("none", x.feed(0, 0, 0, 0, 0) + x.end(0), 20);
        due.is("count(5)", x.count(5), 0);
        due.is("none of none", x.end(0), 0);
        due.sentence("7", "NONE, if it has not so many, or n is below 0");
        due.is("1 of none", x.end(1), -1);
        x.feed(0, 0, 0, 0, 0);
        due.is("21 of 20", x.end(21), -1);
        due.is("-1", x.end(-1), -1);
        due.is("the least number", x.end(LEAST), -1);
        due.is("the greatest number", x.end(MOST), -1);
        due.is("as it was", x.count(5), 20);
        due.is("20 of 20", x.end(20), 20);
        due.is("19 of 20", x.end(19), 19);
        due.is("20 of 19", x.end(20), -1);
        due.is("that is no refusal", x.count(6), 0);
    }

    private static void row() {
        due.sentence("8", "A ROW, the TAPE is empty then: how many HEDGEHOGS came");
        HedgeCouncil x = new HedgeCouncil();
        due.is("burrs alone", Due.row(x, 10, 10, 10, 1, 1), 0);
        due.is("that is no refusal", x.status(), 0);
        due.is("the tape is empty", x.count(5), 0);
        due.is("eight", Due.row(x, 1, 0, 0, 1, 0, 1, 1, 0, 3, 1, 0, 7, 1, 0, 15, 1, 0, 31, 1, 0, 63, 1, 0, 127), 8);
        due.is("the last", x.of(7, 2), 127);
        due.is("a ninth", Due.row(x, 1, 0, 0), 0);
        due.is("that is no refusal", x.status(), 0);
        due.is("the tape is empty", x.count(5), 0);
        due.sentence("8", "-6 the TAPE is empty");
        due.is("row()", x.row(), -6);
        due.is("status()", x.status(), -6);
        Due.tape(x, "\1\1\1");
        x.end(0);
        due.is("cut to nothing", x.row(), -6);
        due.is("one byte is not empty", Due.row(x, 0), 0);
    }

    private static void burrs() {
        due.sentence("9", "How many BURRS the latest row() had that was not REFUSED (0 ahead of any)");
        HedgeCouncil x = new HedgeCouncil();
        due.is("ahead of any", x.burrs(), 0);
        due.is("refused", x.row() * 0 + x.burrs(), 0);
        due.is("one of two", Due.row(x, 1, 1, 0, 10, 1, 0), 1);
        due.is("one", x.burrs(), 1);
        x.row();
        due.is("refused: as it was", x.burrs(), 1);
        Due.row(x, 1, 1, 0);
        due.is("none", x.burrs(), 0);
        Due.row(x, 99, 1, 0, 99, 1, 0, 99);
        due.is("three", x.burrs(), 3);
        HedgeCouncil full = new HedgeCouncil();
        Due.tape(full, "\377".repeat(400)).row();
        due.is("the most", full.burrs(), 134);
        HedgeCouncil fullToo = Due.council(8, 1);
        Due.tape(fullToo, "\0".repeat(399)).row();
        due.is("no room for any", fullToo.burrs(), 133);
    }

    private static void law() {
        due.sentence("10", "The TAPE, which is empty then, becomes a LAW: its number");
        HedgeCouncil x = Due.council(1, 9);
        x.pass();
        due.is("the first", Due.law(x, "needs 1"), 0);
        due.is("the tape is empty", x.count(5), 0);
        for (int i = 1; i < 5; i++) Due.law(x, "needs 1");
        due.is("the last", Due.law(x, "needs 6"), 5);
        due.sentence("10", "-5 (ahead of reading it; the TAPE is empty then, too)");
        due.is("a seventh", Due.law(x, "needs 7"), -5);
        due.is("the tape is empty", x.count(5), 0);
        due.is("no fault", x.fault(), -1);
        due.is("a seventh that can't be read", Due.law(x, "what"), -5);
        due.is("the tape is empty", x.count(5), 0);
        due.is("it was not read", x.fault(), -1);
        due.is("no text", x.law(), -5);
        due.is("it was not read", x.fault(), -1);
        due.is("count(3)", x.count(3), 6);
        x.force(5);
        due.is("the sixth is as it was", x.of(0, 5), 6);
        due.sentence("10", "-6 (blanks alone: FAULT at the end)");
        HedgeCouncil y = new HedgeCouncil();
        due.is("no byte", y.law(), -6);
        due.is("no byte", y.fault(), 0);
        due.is("a blank", Due.law(y, " "), -6);
        due.is("a blank", y.fault(), 1);
        due.is("400 blanks", Due.law(y, " ".repeat(400)), -6);
        due.is("400 blanks", y.fault(), 400);
        due.is("the tape is empty", y.count(5), 0);
        due.is("no law came", y.count(3), 0);
        due.is("the number is not lost", Due.law(y, "shuts"), 0);
        due.sentence("10", "It leaves what can be undone");
        due.is("count(4)", x.count(4), 1);
        due.is("undo()", x.undo(), 3);
        due.is("the laws stay", x.count(3), 6);
    }

    private static void orders() {
        due.sentence("11", "ORDERS, the TAPE is empty then: how many were run");
        HedgeCouncil x = Due.council(2, 9);
        due.is("none", Due.orders(x, "pass if 1=2"), 0);
        due.is("that is no refusal", x.status(), 0);
        due.is("the tape is empty", x.count(5), 0);
        due.is("the most", Due.orders(x, "touch 0 times 20" + ";touch 0 times 20".repeat(11)), 240);
        due.sentence("11", "-3 one can't be");
        due.is("the first", Due.orders(x, "coax 2"), -3);
        due.is("status()", x.status(), -3);
        due.is("the tape is empty", x.count(5), 0);
        due.is("the last of 240", Due.orders(x, "touch 0 times 20" + ";touch 0 times 20".repeat(10) + ";touch done/239*2 times 20"), -3);
        due.is("which clause", x.stopped(), 11);
        due.sentence("11", "-6 (as for law())");
        due.is("no byte", x.orders(), -6);
        due.is("status()", x.status(), -6);
        due.is("no byte", x.fault(), 0);
        due.is("a blank", Due.orders(x, " "), -6);
        due.is("a blank", x.fault(), 1);
        due.is("a fault behind one that could be run", Due.orders(x, "coax 0;what"), -6);
        due.is("none was run", x.of(0, 3), 0);
        due.is("the tape is empty", x.count(5), 0);
        due.is("a fault behind one that could not be run", Due.orders(x, "coax 9;what"), -6);
        due.is("none was run", x.stopped(), -1);
    }

    private static void fault() {
        due.sentence("12", "FAULT of the latest law(), orders() that read a TEXT: its place; NONE without");
        HedgeCouncil x = Due.council(1, 9);
        due.is("ahead of any", x.fault(), -1);
        Due.law(x, "what");
        due.is("0 is a place", x.fault(), 0);
        Due.orders(x, "pass");
        due.is("none", x.fault(), -1);
        Due.orders(x, "pass what");
        due.is("of orders", x.fault(), 5);
        x.row();
        Due.row(x, 1, 1, 0);
        x.feed(0, 0, 0, 0, 0);
        x.end(0);
        x.touch(9);
        due.is("others leave it", x.fault(), 5);
        Due.orders(x, "touch 9");
        due.is("one that can't be is no fault", x.fault(), -1);
        Due.law(x, "shuts shuts");
        due.is("of a law", x.fault(), 6);
        for (int i = 0; i < 6; i++) Due.law(x, "shuts");
        due.is("none", x.fault(), -1);
        Due.orders(x, "what");
        Due.law(x, "shuts");
        due.is("one without room read no text", x.fault(), 0);
        Due.orders(x, "pass" + " ".repeat(395) + "x");
        due.is("the last byte", x.fault(), 399);
        Due.orders(x, "pass" + " ".repeat(395) + ";");
        due.is("the end", x.fault(), 400);
    }

    private static void stopped() {
        due.sentence("13", "Which CLAUSE of the latest orders() could not be. NONE");
        HedgeCouncil x = Due.council(1, 9);
        due.is("ahead of any", x.stopped(), -1);
        Due.orders(x, "touch 1");
        due.is("the first", x.stopped(), 0);
        Due.orders(x, "pass" + ";pass".repeat(10) + ";touch 1");
        due.is("the twelfth", x.stopped(), 11);
        Due.law(x, "what");
        Due.law(x, "shuts");
        x.touch(0);
        x.touch(9);
        due.is("others leave it", x.stopped(), 11);
        Due.orders(x, "touch 0 times 3;touch 0 times 5;touch done - 8 times 2");
        due.is("clauses count, not times", x.stopped(), 2);
        Due.orders(x, "pass");
        due.is("all could be", x.stopped(), -1);
        Due.orders(x, "touch 1");
        Due.orders(x, "touch 1 if 1=2");
        due.is("one that was not run", x.stopped(), -1);
        Due.orders(x, "touch 1");
        x.orders();
        due.is("one that could not be read", x.stopped(), -1);
    }

    private static void force() {
        due.sentence("14", "A LAW is in FORCE (NONE: none): which was. -2. It leaves what can be undone");
        HedgeCouncil x = Due.council(1, 3);
        x.pass();
        due.is("no law", x.force(0), -2);
        due.is("status()", x.status(), -2);
        due.is("none", x.force(-1), -1);
        due.is("that is no refusal", x.status(), 0);
        for (int i = 0; i < 6; i++) {
            Due.law(x, "needs " + i);
            due.is("the next", x.force(i + 1), -2);
            due.is("the last", x.force(i), i - 1);
            due.is("the last", x.of(0, 5), i);
        }
        due.is("the same", x.force(5), 5);
        due.is("-2", x.force(-2), -2);
        due.is("the least number", x.force(LEAST), -2);
        due.is("the greatest number", x.force(MOST), -2);
        due.is("as it was", x.count(11), 5);
        due.is("none", x.force(-1), 5);
        due.is("none", x.count(11), -1);
        due.is("count(4)", x.count(4), 1);
        x.force(2);
        due.is("undo()", x.undo(), 3);
        due.is("it is in force still", x.count(11), 2);
    }

    private static void touch() {
        due.sentence("15", "To TOUCH: whether it was OPEN (1, 0). -2");
        HedgeCouncil x = Due.council(8, 9);
        due.is("shut", x.touch(0), 0);
        x.coax(7);
        due.is("open", x.touch(7), 1);
        due.is("shut by now", x.touch(7), 0);
        due.is("8", x.touch(8), -2);
        due.is("status()", x.status(), -2);
        due.is("-1", x.touch(-1), -2);
        due.is("32", x.touch(32), -2);
        due.is("the least number", x.touch(LEAST), -2);
        due.is("the greatest number", x.touch(MOST), -2);
        due.is("at minute 999, too", x.terms(0, 999) + x.touch(0), 0);
    }

    private static void coax() {
        due.sentence("16", "To COAX: how many are OPEN then. -2; -3");
        HedgeCouncil x = Due.council(8, 9);
        for (int h = 0; h < 8; h++) due.is("coax(" + h + ")", x.coax(h), h + 1);
        for (int h = 0; h < 8; h++) due.is("coax(" + h + ") again", x.coax(h), -3);
        due.is("status()", x.status(), -3);
        due.is("8", x.coax(8), -2);
        due.is("-1", x.coax(-1), -2);
        due.is("32", x.coax(32), -2);
        due.is("the least number", x.coax(LEAST), -2);
        due.is("the greatest number", x.coax(MOST), -2);
        due.is("count(4)", x.count(4), 8);
    }

    private static void tempt() {
        due.sentence("17", "To TEMPT: what it WANTED. -1; -2; -3 it WANTS that");
        HedgeCouncil x = Due.council(8, 5);
        due.is("to the least", x.tempt(0, 0), 5);
        due.is("to the most", x.tempt(7, 9), 5);
        due.is("back", x.tempt(7, 5), 9);
        due.is("it wants that", x.tempt(0, 0), -3);
        due.is("it wants that", x.tempt(7, 5), -3);
        due.is("to 10", x.tempt(0, 10), -1);
        due.is("to -1", x.tempt(0, -1), -1);
        due.is("far off", x.tempt(0, LEAST), -1);
        due.is("far off", x.tempt(0, MOST), -1);
        due.is("8 to 10", x.tempt(8, 10), -1);
        due.is("8", x.tempt(8, 9), -2);
        due.is("-1", x.tempt(-1, 0), -2);
        due.is("32", x.tempt(32, 0), -2);
        due.is("the least number", x.tempt(LEAST, 0), -2);
        due.is("the greatest number", x.tempt(MOST, 0), -2);
        due.is("as they were", x.of(0, 0) * 10 + x.of(7, 0), 5);
        due.is("count(4)", x.count(4), 3);
    }

    private static void pass() {
        due.sentence("18", "A MINUTE: how many are OPEN then. -3");
        HedgeCouncil x = Due.council(8, 0);
        due.is("all", x.pass(), 8);
        Due.under(x, "shuts");
        due.is("none", x.pass(), 0);
        due.is("no hedgehogs", new HedgeCouncil().pass(), 0);
        x.terms(0, 998);
        due.is("to 999", x.pass(), 8);
        due.is("beyond", x.pass(), -3);
        due.is("status()", x.status(), -3);
        due.is("count(12)", x.count(12), 999);
        due.is("count(1)", x.count(1), 8);
        due.is("count(4)", x.count(4), 1);
        due.is("back from 999", x.undo(), 3);
        due.is("and on again", x.pass(), 8);
    }

    private static void undo() {
        due.sentence("19", "16 are kept");
        for (int acts = 0; acts <= 20; acts++) {
            HedgeCouncil x = Due.council(1, 9);
            for (int i = 0; i < acts; i++) x.pass();
            int kept = Math.min(acts, 16);
            due.is(acts + " acts", x.count(4), kept);
            for (int i = 0; i < kept; i++) due.is("undo()", x.undo(), 3);
            due.is("the minute", x.count(12), acts - kept);
            due.is("still", x.of(0, 4), acts - kept);
            due.is("there is none", x.undo(), -3);
            due.is("status()", x.status(), -3);
            due.is("count(4)", x.count(4), 0);
        }
        HedgeCouncil y = Due.council(1, 9);
        due.is("by orders, too", Due.orders(y, "pass times 17"), 17);
        due.is("16 are kept", y.count(4), 16);
        for (int i = 0; i < 16; i++) y.undo();
        due.is("the minute", y.count(12), 1);
        due.is("there is none", y.undo(), -3);
    }

    private static void undoAllKinds() {
        due.sentence("19", "is undone (who is OPEN, WANTS, how long all are STILL, MINUTE are as they were): 0 .. 3");
        HedgeCouncil x = Due.line(3);
        Due.under(x, "wants want + 1");
        x.coax(0);
        x.pass();
        x.touch(1);
        x.tempt(2, 9);
        x.pass();
        due.is("pass", x.undo(), 3);
        due.is("open", x.later(0), 1);
        due.is("wants", x.of(0, 0) * 100 + x.of(1, 0) * 10 + x.of(2, 0), 229);
        due.is("still", x.of(0, 4) * 100 + x.of(1, 4) * 10 + x.of(2, 4), 101);
        due.is("minute", x.count(12), 1);
        due.is("tempt", x.undo(), 2);
        due.is("wants", x.of(2, 0), 2);
        due.is("touch", x.undo(), 0);
        due.is("open", x.later(0), 3);
        due.is("still", x.of(1, 4), 1);
        due.is("pass", x.undo(), 3);
        due.is("wants", x.of(0, 0) * 100 + x.of(1, 0) * 10 + x.of(2, 0), 111);
        due.is("open", x.later(0), 1);
        due.is("still", x.of(0, 4), 0);
        due.is("minute", x.count(12), 0);
        due.is("coax", x.undo(), 1);
        due.is("open", x.later(0), 0);
        due.is("there is none", x.undo(), -3);
        x.touch(0);
        due.is("one that was shut is touched, and that is undone", x.undo(), 0);
        due.sentence("19", "by ORDERS, too");
        Due.orders(x, "coax 2;pass;touch 2;tempt 2 to 7");
        int[] kinds = {2, 0, 3, 1, -3};
        for (int kind : kinds) due.is("one by one", x.undo(), kind);
    }

    private static void undoWrapsAround() {
        due.sentence("19", "16 are kept: around and around");
        HedgeCouncil x = Due.council(1, 0);
        int[] wants = new int[400];
        int acts = 0;
        int kept = 0;
        int[] up = {20, 7, 16, 3, 25};
        int[] down = {10, 9, 16, 2, 16};
        for (int turn = 0; turn < up.length; turn++) {
            for (int i = 0; i < up[turn]; i++) {
                int want = (wants[acts] + 1 + i % 8) % 10;
                x.tempt(0, want);
                acts++;
                wants[acts] = want;
                kept = Math.min(16, kept + 1);
            }
            due.is("count(4)", x.count(4), kept);
            for (int i = 0; i < down[turn]; i++) {
                due.is("undo()", x.undo(), kept > 0 ? 2 : -3);
                if (kept > 0) {
                    kept--;
                    acts--;
                }
                due.is("as it was", x.of(0, 0), wants[acts]);
            }
            due.is("count(4)", x.count(4), kept);
        }
    }

    private static void whatEndsUndoing() {
        due.sentence("19", "nothing that was ahead of a hedgehog(), terms(), row(), back() that was not REFUSED can be undone");
        for (int which = 0; which < 12; which++) {
            HedgeCouncil x = Due.council(3, 9);
            x.image(0);
            x.pass();
            x.touch(0);
            boolean ends = true;
            switch (which) {
                case 0: due.is("hedgehog", x.hedgehog(1, 1), 3); break;
                case 1: due.is("terms, the same", x.terms(1, 1), 1); break;
                case 2: due.is("terms, MINUTE", x.terms(0, 1), 1); break;
                case 3: due.is("row", Due.row(x, 1, 1, 0), 1); break;
                case 4: due.is("row of burrs", Due.row(x, 1), 0); break;
                case 5: due.is("back", x.back(0), 0); break;
                case 6: due.is("hedgehog, refused", x.hedgehog(10, 1), -1); ends = false; break;
                case 7: due.is("terms, refused", x.terms(0, 1000), -1); ends = false; break;
                case 8: due.is("row, refused", x.row(), -6); ends = false; break;
                case 9: due.is("back, refused", x.back(1), -2); ends = false; break;
                case 10: due.is("back, refused", x.back(2), -1); ends = false; break;
                default: due.is("image", x.image(1), 0); ends = false; break;
            }
            due.is(which + ": count(4)", x.count(4), ends ? 0 : 2);
            due.is(which + ": undo()", x.undo(), ends ? -3 : 0);
            due.is(which + ": undo()", x.undo(), ends ? -3 : 3);
        }
        HedgeCouncil y = Due.council(8, 9);
        y.pass();
        due.is("a ninth, refused", y.hedgehog(1, 1), -5);
        due.is("what was ahead of it", y.count(4), 1);
        y.terms(3, 3);
        y.touch(0);
        due.is("what is behind it", y.undo(), 0);
        due.is("what was ahead of it", y.undo(), -3);
    }

    private static void later() {
        due.sentence("20", "LATER, n 0 .. 60, as bits. NONE");
        HedgeCouncil x = Due.line(8);
        x.coax(0);
        due.is("0", x.later(0), 1);
        due.is("6", x.later(6), 127);
        due.is("7", x.later(7), 255);
        due.is("60", x.later(60), 255);
        due.is("61", x.later(61), -1);
        due.is("-1", x.later(-1), -1);
        due.is("the least number", x.later(LEAST), -1);
        due.is("the greatest number", x.later(MOST), -1);
        HedgeCouncil late = Due.under(Due.council(1, 9), "needs 0 if minute = 59");
        due.is("59", late.later(59), 0);
        due.is("60", late.later(60), 1);
    }

    private static void opens() {
        due.sentence("21", "OPENS. NONE (not in 60; no such HEDGEHOG)");
        HedgeCouncil x = Due.line(8);
        due.is("never", x.opens(7), -1);
        x.coax(0);
        due.is("now", x.opens(0), 0);
        due.is("the last", x.opens(7), 7);
        due.is("8", x.opens(8), -1);
        due.is("-1", x.opens(-1), -1);
        due.is("32", x.opens(32), -1);
        due.is("the least number", x.opens(LEAST), -1);
        due.is("the greatest number", x.opens(MOST), -1);
        due.is("in 60", Due.under(Due.council(1, 9), "needs 0 if minute = 59").opens(0), 60);
        due.is("not in 60", Due.under(Due.council(1, 9), "needs 0 if minute = 60").opens(0), -1);
    }

    private static void together() {
        due.sentence("22", "TOGETHER (no HEDGEHOGS: 0). NONE (not in 60)");
        due.is("no hedgehogs", new HedgeCouncil().together(), 0);
        HedgeCouncil x = Due.line(8);
        due.is("never", x.together(), -1);
        x.coax(0);
        due.is("7", x.together(), 7);
        for (int h = 1; h < 8; h++) x.coax(h);
        due.is("now", x.together(), 0);
        due.is("in 60", Due.under(Due.council(1, 9), "needs 0 if minute = 59").together(), 60);
        due.is("not in 60", Due.under(Due.council(1, 9), "needs 0 if minute = 60").together(), -1);
        HedgeCouncil empty = new HedgeCouncil();
        empty.image(0);
        empty.hedgehog(9, 9);
        due.is("one", empty.together(), -1);
        empty.back(0);
        due.is("none again", empty.together(), 0);
    }

    private static void again() {
        due.sentence("23", "AGAIN. NONE (not in 60)");
        due.is("no hedgehogs", new HedgeCouncil().again(), 1);
        due.is("nothing changes", Due.council(3, 9).again(), 1);
        HedgeCouncil x = Due.line(2);
        x.coax(0);
        due.is("never", x.again(), -1);
        due.is("in 60", Due.under(Due.council(1, 9), "needs 0 if minute = 0;shuts if minute = 59").again(), 60);
        due.is("not in 60", Due.under(Due.council(1, 9), "needs 0 if minute = 0;shuts if minute = 60").again(), -1);
    }

    private static void seeds() {
        due.sentence("24", "SEEDS: how many (what 0), who, as bits (1). NONE (it can't be)");
        HedgeCouncil x = Due.council(8, 9);
        due.is("all: how many", x.seeds(0), 8);
        due.is("all: who", x.seeds(1), 255);
        x.coax(0);
        due.is("the others: how many", x.seeds(0), 7);
        due.is("the others: who", x.seeds(1), 254);
        due.is("what 2", x.seeds(2), -1);
        due.is("what -1", x.seeds(-1), -1);
        due.is("the least number", x.seeds(LEAST), -1);
        due.is("the greatest number", x.seeds(MOST), -1);
        due.is("no hedgehogs, what 2", new HedgeCouncil().seeds(2), -1);
        HedgeCouncil one = Due.council(1, 9);
        due.is("one alone: how many", one.seeds(0), 1);
        due.is("one alone: who", one.seeds(1), 1);
        one.coax(0);
        due.is("none: how many", one.seeds(0), 0);
        due.is("none: who", one.seeds(1), 0);
    }

    private static void seedsFor() {
        due.sentence("25", "FOR one: how many (what 0), who, as bits (1). NONE (it can't be; no such HEDGEHOG)");
        HedgeCouncil x = Due.line(8);
        due.is("the last: how many", x.seedsFor(7, 0), 1);
        due.is("the last: who", x.seedsFor(7, 1), 1);
        due.is("it can't be: how many", x.seedsFor(0, 0), -1);
        due.is("it can't be: who", x.seedsFor(0, 1), -1);
        x.coax(0);
        due.is("it is open: how many", x.seedsFor(0, 0), 0);
        due.is("it opens anyhow: who", x.seedsFor(7, 1), 0);
        due.is("8", x.seedsFor(8, 0), -1);
        due.is("-1", x.seedsFor(-1, 0), -1);
        due.is("32", x.seedsFor(32, 1), -1);
        due.is("the least number", x.seedsFor(LEAST, 1), -1);
        due.is("the greatest number", x.seedsFor(MOST, 1), -1);
        due.is("what 2", x.seedsFor(7, 2), -1);
        due.is("what -1", x.seedsFor(7, -1), -1);
    }

    private static void spread() {
        due.sentence("26", "SPREAD, as bits. NONE");
        HedgeCouncil x = Due.line(8);
        due.is("the first", x.spread(0), 255);
        due.is("the last", x.spread(7), 128);
        due.is("8", x.spread(8), -1);
        due.is("-1", x.spread(-1), -1);
        due.is("32", x.spread(32), -1);
        due.is("the least number", x.spread(LEAST), -1);
        due.is("the greatest number", x.spread(MOST), -1);
        x.tempt(7, 0);
        due.is("to none", x.spread(7), 0);
    }

    private static void held() {
        due.sentence("27", "HELD: how many (what 0), who, as bits (1). NONE (it is OPEN; it can't be; no such HEDGEHOG)");
        HedgeCouncil x = Due.line(8);
        due.is("none: how many", x.held(7, 0), 0);
        due.is("none: who", x.held(7, 1), 0);
        x.coax(0);
        due.is("one: how many", x.held(7, 0), 1);
        due.is("one: who", x.held(7, 1), 1);
        due.is("it is open", x.held(0, 0), -1);
        due.is("it is open", x.held(0, 1), -1);
        x.tempt(6, 0);
        due.is("it can't be", x.held(6, 0), -1);
        due.is("it can't be", x.held(6, 1), -1);
        due.is("8", x.held(8, 0), -1);
        due.is("-1", x.held(-1, 0), -1);
        due.is("32", x.held(32, 1), -1);
        due.is("the least number", x.held(LEAST, 0), -1);
        due.is("the greatest number", x.held(MOST, 0), -1);
        due.is("what 2", x.held(7, 2), -1);
        due.is("what -1", x.held(7, -1), -1);
    }

    private static void chain() {
        due.sentence("28", "A CHAIN: how many (i NONE; to oneself: 0), the i-th. NONE (there is none; not so many; no such HEDGEHOGS)");
        HedgeCouncil x = Due.line(8);
        for (int h = 0; h < 8; h++) {
            due.is("to oneself", x.chain(h, h, -1), 0);
            due.is("to oneself: not so many", x.chain(h, h, 0), -1);
            due.is("from the first", x.chain(0, h, -1), h);
            due.is("from the first: the last", x.chain(0, h, h - 1), h);
            due.is("from the first: not so many", x.chain(0, h, h), -1);
        }
        due.is("there is none", x.chain(1, 0, -1), -1);
        due.is("there is none", x.chain(1, 0, 0), -1);
        due.is("i -2", x.chain(0, 7, -2), -1);
        due.is("i the least number", x.chain(0, 7, LEAST), -1);
        due.is("i the greatest number", x.chain(0, 7, MOST), -1);
        int[] wrong = {-1, 8, 32, LEAST, MOST};
        for (int one : wrong) {
            due.is("from " + one, x.chain(one, 0, -1), -1);
            due.is("to " + one, x.chain(0, one, -1), -1);
            due.is("from and to " + one, x.chain(one, one, -1), -1);
        }
        x.watch(0, 7, 1);
        due.is("to oneself in a ring", x.chain(0, 0, -1), 0);
        due.is("around", x.chain(1, 0, -1), 7);
        due.is("around", x.chain(1, 0, 6), 0);
    }

    private static void knotsAndHeads() {
        due.sentence("29", "KNOTS");
        HedgeCouncil x = Due.council(8, 1);
        due.is("the most", x.knots(), 8);
        for (int i = 0; i < 8; i++) for (int j = 0; j < 8; j++) if (i != j) x.watch(i, j, 1);
        due.is("each watches each", x.knots(), 1);
        due.is("none", new HedgeCouncil().knots(), 0);
        due.sentence("30", "HEADS: how many (what 0; no HEDGEHOGS: 0), who, as bits (1). NONE for others");
        due.is("each watches each: how many", x.heads(0), 1);
        due.is("each watches each: who", x.heads(1), 1);
        due.is("no hedgehogs: how many", new HedgeCouncil().heads(0), 0);
        due.is("no hedgehogs: who", new HedgeCouncil().heads(1), 0);
        due.is("the most: how many", Due.council(8, 1).heads(0), 8);
        due.is("the most: who", Due.council(8, 1).heads(1), 255);
        due.is("what 2", x.heads(2), -1);
        due.is("what -1", x.heads(-1), -1);
        due.is("the least number", x.heads(LEAST), -1);
        due.is("the greatest number", x.heads(MOST), -1);
        due.is("no hedgehogs, what 2", new HedgeCouncil().heads(2), -1);
    }

    private static void seenAndForget() {
        due.sentence("31", "SEEN: how often there was. -1; -5. It leaves what can be undone");
        HedgeCouncil x = Due.council(2, 9);
        x.pass();
        due.is("the first", x.seen(0, 0), 1);
        for (int i = 2; i <= 5; i++) due.is("more", x.seen(60, 0), i);
        due.is("-1 ahead of the sixth", x.seen(61, 0), -1);
        due.is("the sixth", x.seen(60, 1), 6);
        due.is("a seventh", x.seen(0, 0), -5);
        due.is("status()", x.status(), -5);
        due.is("a seventh that can't be", x.seen(-1, 0), -1);
        due.is("count(2)", x.count(2), 6);
        due.is("count(4)", x.count(4), 1);
        due.is("undo()", x.undo(), 3);
        due.is("what was seen stays", x.count(2), 6);
        due.sentence("32", "SEEN is nothing then: how often there was");
        due.is("six", x.forget(), 6);
        due.is("count(2)", x.count(2), 0);
        due.is("none", x.forget(), 0);
        due.is("it can be all again", x.canBe(), 3);
        due.is("one again", x.seen(0, 1), 1);
        due.is("one", x.forget(), 1);
    }

    private static void canBeAndLook() {
        due.sentence("33", "IT CAN BE, as bits");
        HedgeCouncil x = Due.council(8, 9);
        due.is("all", x.canBe(), 255);
        x.seen(0, 1);
        due.is("none", x.canBe(), 0);
        x.coax(7);
        due.is("the last", x.canBe(), 128);
        x.seen(60, 1);
        due.is("the last", x.canBe(), 128);
        due.is("no hedgehogs", new HedgeCouncil().canBe(), 0);
        due.sentence("34", "To LOOK: n (what 0), how many are left at most (1). NONE (it can be none)");
        due.is("one: n", x.look(0), 0);
        due.is("one: left", x.look(1), 1);
        due.is("what 2", x.look(2), -1);
        due.is("what -1", x.look(-1), -1);
        due.is("the least number", x.look(LEAST), -1);
        due.is("the greatest number", x.look(MOST), -1);
        x.seen(0, 0);
        due.is("none: n", x.look(0), -1);
        due.is("none: left", x.look(1), -1);
        due.is("no hedgehogs: n", new HedgeCouncil().look(0), -1);
        due.is("no hedgehogs: left", new HedgeCouncil().look(1), -1);
        due.is("all alike: n", Due.council(8, 9).look(0), 0);
        due.is("all alike: left", Due.council(8, 9).look(1), 8);
        HedgeCouncil y = Due.council(8, 9);
        for (int h = 0; h < 3; h++) y.coax(h);
        due.is("the more of three and five", y.look(1), 5);
        for (int h = 3; h < 6; h++) y.coax(h);
        due.is("the more of six and two", y.look(1), 6);
    }

    private static void few() {
        due.sentence("35", "FEW, k 1 .. 20, n 0 .. 99. NONE");
        HedgeCouncil x = new HedgeCouncil();
        PlainCouncil y = new PlainCouncil();
        for (int starts = 0; starts <= 10; starts++) {
            x.terms(1, starts);
            y.terms(1, starts);
            int[][] edges = {{1, 0}, {1, 99}, {20, 0}, {20, 99}, {20, 19}, {20, 20}, {19, 98}, {2, 1}, {10, 50}};
            for (int[] e : edges) due.is("few(" + e[0] + ", " + e[1] + ") at " + starts, x.few(e[0], e[1]), y.few(e[0], e[1]));
        }
        int[][] wrong = {{0, 0}, {-1, 0}, {21, 0}, {LEAST, 0}, {MOST, 0}, {1, -1}, {1, 100}, {1, LEAST}, {1, MOST}, {0, 100}};
        for (int[] w : wrong) due.is("few(" + w[0] + ", " + w[1] + ")", x.few(w[0], w[1]), -1);
        due.is("that is no refusal", x.count(6), 0);
    }

    private static void compare() {
        due.sentence("36", "COMPARED. NONE (no such LAW)");
        HedgeCouncil x = Due.council(8, 9);
        due.is("none", x.compare(-1), 0);
        due.is("no law as yet", x.compare(0), -1);
        Due.law(x, "needs 0");
        due.is("the law", x.compare(0), 8);
        due.is("the next", x.compare(1), -1);
        due.is("-2", x.compare(-2), -1);
        due.is("the least number", x.compare(LEAST), -1);
        due.is("the greatest number", x.compare(MOST), -1);
        for (int i = 1; i < 6; i++) Due.law(x, "needs 9");
        due.is("the sixth", x.compare(5), 0);
        due.is("a seventh", x.compare(6), -1);
        due.is("without hedgehogs", new HedgeCouncil().compare(-1), 0);
    }

    private static void councils() {
        due.sentence("37", "COUNCILS, kept as the latest: who is OPEN behind them, as bits. -1; -3 there are no HEDGEHOGS");
        HedgeCouncil none = new HedgeCouncil();
        due.is("no hedgehogs", none.councils(0, 1), -3);
        due.is("status()", none.status(), -3);
        due.is("no hedgehogs, n 0", none.councils(0, 0), -1);
        due.is("no hedgehogs, seed -1", none.councils(-1, 1), -1);
        none.hedgehog(0, 0);
        due.is("one opens anyhow", none.councils(0, 1), 1);
        HedgeCouncil x = Due.council(8, 0);
        // The seed 0 leads to 1, 1, 1: one is open, and then all are.
        due.is("all, as bits", x.councils(0, 1), 255);
        due.is("on paper", x.count(1), 0);
        due.is("n 60", x.councils(0, 60) >= 0 ? 1 : 0, 1);
        due.is("n 61", x.councils(0, 61), -1);
        due.is("n 0", x.councils(0, 0), -1);
        // The greatest seed leads to 4, 6, 2: that one wants too much then.
        due.is("seed 1,000,000", x.councils(1_000_000, 1), 255 - 16);
        due.is("seed 1,000,001", x.councils(1_000_001, 1), -1);
        due.is("seed -1", x.councils(-1, 1), -1);
    }

    private static void drawn() {
        due.sentence("38", "Behind the latest COUNCILS of a HEDGEHOG WANT (what 0), whether OPEN (1: 1, 0), STILL (2). NONE");
        HedgeCouncil x = Due.council(8, 9);
        due.is("ahead of any", x.drawn(0, 0), -1);
        x.councils(1_000_000, 3);
        int[][] told = {{9, 0, 3}, {9, 0, 3}, {9, 0, 3}, {9, 0, 2}, {6, 0, 3}, {9, 0, 3}, {9, 0, 3}, {9, 0, 3}};
        for (int h = 0; h < 8; h++) for (int what = 0; what < 3; what++) due.is("drawn", x.drawn(h, what), told[h][what]);
        due.is("what 3", x.drawn(0, 3), -1);
        due.is("what -1", x.drawn(0, -1), -1);
        due.is("what far off", x.drawn(0, LEAST), -1);
        due.is("8", x.drawn(8, 0), -1);
        due.is("-1", x.drawn(-1, 0), -1);
        due.is("32", x.drawn(32, 1), -1);
        due.is("the least number", x.drawn(LEAST, 0), -1);
        due.is("the greatest number", x.drawn(MOST, 0), -1);
        x.pass();
        x.tempt(0, 3);
        due.is("as it was then", x.drawn(0, 0), 9);
        x.councils(0, 61);
        due.is("one that was refused is not the latest", x.drawn(4, 0), 6);
        x.councils(0, 1);
        due.is("the latest", x.drawn(1, 1), 1);
        due.is("the latest", x.drawn(0, 0), 3);
        HedgeCouncil y = Due.council(1, 9);
        y.councils(0, 1);
        y.hedgehog(4, 4);
        due.is("one that came later", y.drawn(1, 0), -1);
        HedgeCouncil empty = new HedgeCouncil();
        empty.councils(0, 1);
        due.is("refused: none is kept", empty.drawn(0, 0), -1);
    }

    private static void image() {
        due.sentence("39", "IMAGE k is kept: 0; -1");
        HedgeCouncil x = Due.council(1, 9);
        due.is("0", x.image(0), 0);
        due.is("1", x.image(1), 0);
        due.is("2", x.image(2), -1);
        due.is("status()", x.status(), -1);
        due.is("-1", x.image(-1), -1);
        due.is("the least number", x.image(LEAST), -1);
        due.is("the greatest number", x.image(MOST), -1);
        x.tempt(0, 3);
        due.is("once more", x.image(0), 0);
        x.back(1);
        due.is("the other one stays", x.of(0, 0), 9);
        x.back(0);
        due.is("the later one", x.of(0, 0), 3);
    }

    private static void back() {
        due.sentence("40", "BACK to IMAGE k: 0. -1; -2 it was not kept");
        HedgeCouncil x = Due.council(1, 9);
        due.is("0", x.back(0), -2);
        due.is("1", x.back(1), -2);
        due.is("status()", x.status(), -2);
        due.is("2", x.back(2), -1);
        due.is("-1", x.back(-1), -1);
        due.is("the least number", x.back(LEAST), -1);
        due.is("the greatest number", x.back(MOST), -1);
        x.image(1);
        due.is("0", x.back(0), -2);
        due.is("1", x.back(1), 0);
        due.is("status()", x.status(), 0);
        due.is("1 again", x.back(1), 0);
        x.image(0);
        due.is("0", x.back(0), 0);
    }

    private static void whatImagesKeep() {
        due.sentence("40", "BACK to one all that it keeps is as it was then");
        HedgeCouncil x = new HedgeCouncil();
        x.image(0);
        Due.row(x, 1, 2, 0, 3, 4, 1, 5, 6, 3);
        for (int i = 0; i < 6; i++) Due.law(x, "needs " + (i + 2));
        x.force(5);
        for (int i = 0; i < 6; i++) x.seen(0, 0);
        x.coax(2);
        int[] terms = {990, 10, 9, 8};
        for (int what = 0; what < 4; what++) x.terms(what, terms[what]);
        x.pass();
        x.image(1);
        due.is("from full to empty", x.back(0), 0);
        int[] empty = {0, 0, 0, 0, 0, 0};
        for (int what = 0; what < 6; what++) due.is("count(" + what + ")", x.count(what), empty[what]);
        due.is("no law in force", x.count(11), -1);
        int[] first = {0, 1, 0, 0};
        for (int what = 0; what < 4; what++) due.is("terms", x.count(12 + what), first[what]);
        due.is("laws have room again", Due.law(x, "shuts"), 0);
        due.is("seen has room again", x.seen(0, 1), 1);
        due.is("hedgehogs have room again", x.hedgehog(9, 9), 0);
        due.is("from there to full", x.back(1), 0);
        int[] full = {3, 1, 6, 6, 0, 0};
        for (int what = 0; what < 6; what++) due.is("count(" + what + ")", x.count(what), full[what]);
        due.is("the law in force", x.count(11), 5);
        due.is("minute", x.count(12), 991);
        for (int what = 1; what < 4; what++) due.is("terms", x.count(12 + what), terms[what]);
        int[][] told = {{1, 2, 0, 0, 1, 7}, {3, 4, 1, 0, 1, 7}, {5, 6, 3, 1, 1, 7}};
        for (int h = 0; h < 3; h++) for (int what = 0; what < 6; what++) due.is("of(" + h + ", " + what + ")", x.of(h, what), told[h][what]);
        for (int i = 0; i < 6; i++) {
            x.force(i);
            due.is("each law", x.of(0, 5), i + 2);
        }
        due.is("no room for a law", Due.law(x, "shuts"), -5);
        due.is("no room for what is seen", x.seen(0, 0), -5);
        due.is("what was seen", x.canBe(), 3);
        allOthersBetween();
        HedgeCouncil open = Due.council(1, 9);
        for (int i = 0; i < 6; i++) open.seen(i, 0);
        open.image(0);
        open.forget();
        open.coax(0);
        for (int i = 0; i < 6; i++) open.seen(i, 1);
        open.image(1);
        open.back(0);
        due.is("six times it was seen shut, and is", open.canBe(), 1);
        open.back(1);
        due.is("six times it was seen open, and is", open.canBe(), 1);
        due.sentence("40", "all but the TAPE, FAULT, BURRS, where ORDERS stopped, .. the latest COUNCILS");
        HedgeCouncil y = Due.council(2, 9);
        y.image(0);
        Due.row(y, 1);
        Due.orders(y, "pass;touch 9");
        y.hedgehog(8, 8);
        y.councils(0, 1);
        for (int i = 0; i < 6; i++) Due.law(y, "shuts");
        Due.orders(y, "pass;pass;touch 9");
        Due.tape(y, "touch 1");
        y.back(0);
        due.is("the tape", y.count(5), 7);
        due.is("burrs", y.burrs(), 1);
        due.is("where orders stopped", y.stopped(), 2);
        due.is("the latest councils", y.drawn(0, 2), 1);
        due.is("the tape", y.orders(), 1);
        Due.law(y, "shuts what");
        y.back(0);
        due.is("fault", y.fault(), 6);
    }

    /** All rooms are full in both images, and nothing of one is left in the other. */
    private static void allOthersBetween() {
        HedgeCouncil x = new HedgeCouncil();
        x.image(1);
        fill(x, 0);
        x.image(0);
        x.back(1);
        fill(x, 1);
        x.image(1);
        for (int which : new int[] {0, 1, 0}) {
            x.back(which);
            for (int h = 0; h < 8; h++) {
                due.is("wants", x.of(h, 0), h + 1 + which);
                due.is("shy", x.of(h, 1), h + which);
                due.is("watches", x.of(h, 2), 1 << (h + 1 + which) % 8);
                due.is("open", x.of(h, 3), isOpenIn(h, which) ? 1 : 0);
                due.is("still", x.of(h, 4), h % 3 == which ? 0 : 1);
            }
            for (int what = 1; what < 4; what++) due.is("terms", x.count(12 + what), what + 1 + which);
            due.is("each that was seen", x.canBe(), which == 0 ? 192 : 3);
            for (int i = 1; i < 6; i++) {
                x.force(i);
                due.is("each law", x.of(0, 5), i + which);
            }
        }
    }

    private static boolean isOpenIn(int h, int which) {
        return h == 0 || h % 2 != which;
    }

    /** By the law in force h is shut at the minute behind h, so that each of the six that were seen leaves another one out. */
    private static void fill(HedgeCouncil x, int which) {
        for (int h = 0; h < 8; h++) x.hedgehog(h + 1 + which, h + which);
        for (int h = 0; h < 8; h++) x.watch(h, (h + 1 + which) % 8, 1);
        Due.law(x, "shuts if minute = who;needs 0");
        for (int i = 1; i < 6; i++) Due.law(x, "needs " + (i + which));
        for (int i = 0; i < 6; i++) x.seen(i + 1 + 2 * which, 1);
        x.pass();
        for (int h = 0; h < 8; h++) {
            if (h % 3 == which) x.touch(h);
            if (isOpenIn(h, which)) x.coax(h);
        }
        x.force(0);
        x.terms(0, 0);
        for (int what = 1; what < 4; what++) x.terms(what, what + 1 + which);
    }

    private static void count() {
        due.sentence("41", "0 HEDGEHOGS, 1 how many are OPEN, 2 SEEN, 3 LAWS, 4 how many can be undone, 5 bytes of the TAPE .. NONE for others");
        HedgeCouncil x = new HedgeCouncil();
        for (int i = 0; i < 8; i++) {
            due.is("hedgehogs", x.count(0), i);
            x.hedgehog(9, 9);
        }
        due.is("hedgehogs", x.count(0), 8);
        for (int i = 0; i < 8; i++) {
            due.is("open", x.count(1), i);
            x.coax(i);
        }
        due.is("open", x.count(1), 8);
        for (int i = 0; i < 6; i++) {
            due.is("seen", x.count(2), i);
            due.is("laws", x.count(3), i);
            x.seen(i, 0);
            Due.law(x, "shuts");
        }
        due.is("seen", x.count(2), 6);
        due.is("laws", x.count(3), 6);
        due.is("can be undone", x.count(4), 8);
        for (int i = 9; i < 20; i++) {
            x.touch(0);
            due.is("can be undone", x.count(4), Math.min(i, 16));
        }
        for (int i = 0; i < 20; i++) {
            due.is("bytes", x.count(5), 20 * i);
            x.feed(0, 0, 0, 0, 0);
        }
        due.is("bytes", x.count(5), 400);
        x.end(399);
        due.is("bytes", x.count(5), 399);
        due.is("-1", x.count(-1), -1);
        due.is("16", x.count(16), -1);
        due.is("the least number", x.count(LEAST), -1);
        due.is("the greatest number", x.count(MOST), -1);
        due.sentence("41", "11 the LAW in FORCE, 12 .. 15 TERMS 0 .. 3");
        due.is("none", x.count(11), -1);
        x.force(5);
        due.is("the last", x.count(11), 5);
        int[] most = {999, 10, 9, 8};
        for (int what = 0; what < 4; what++) x.terms(what, most[what]);
        for (int what = 0; what < 4; what++) due.is("terms", x.count(12 + what), most[what]);
    }

    private static void refusalsCounted() {
        due.sentence("41", "6 .. 10 how many calls were REFUSED by -1, -2, -3, -5, -6 (IMAGES do not keep that)");
        HedgeCouncil x = Due.council(8, 9);
        x.image(0);
        int[] counts = new int[5];
        for (int turn = 0; turn < 4; turn++) {
            for (int kind = turn; kind < 5; kind++) {
                switch (kind) {
                    case 0: x.terms(4, 0); break;
                    case 1: x.touch(8); break;
                    case 2: x.tempt(0, 9); break;
                    case 3: x.hedgehog(0, 0); break;
                    default: x.row(); break;
                }
                counts[kind]++;
                for (int k = 0; k < 5; k++) due.is("count(" + (6 + k) + ")", x.count(6 + k), counts[k]);
            }
        }
        x.back(0);
        for (int k = 0; k < 5; k++) due.is("images do not keep that", x.count(6 + k), counts[k]);
        Due.orders(x, "touch 0;touch 8");
        due.is("orders are one call", x.count(8), counts[2] + 1);
        due.is("orders are one call", x.count(7), counts[1]);
        x.of(8, 0);
        x.end(1);
        x.later(61);
        x.few(0, 0);
        x.compare(3);
        x.drawn(9, 9);
        x.count(16);
        for (int k = 0; k < 5; k++) due.is("answers NONE are no refusals", x.count(6 + k), counts[k] + (k == 2 ? 1 : 0));
    }

    private static void status() {
        due.sentence("42", "What the latest call .. was REFUSED by; 0 if it was not, or ahead of any");
        HedgeCouncil x = new HedgeCouncil();
        due.is("ahead of any", x.status(), 0);
        String[] names = {"hedgehog", "watch", "terms", "row", "law", "orders", "force", "touch", "coax", "tempt", "pass", "undo", "seen",
            "councils", "image", "back"};
        for (int i = 0; i < names.length; i++) {
            HedgeCouncil y = Due.council(3, 9);
            y.terms(0, 999);
            int told = refusedCall(y, i);
            due.isSo(names[i] + " is refused", told < 0);
            due.is(names[i], y.status(), told);
            leaves(y);
            due.is(names[i] + ": others leave it", y.status(), told);
            HedgeCouncil z = Due.council(3, 9);
            z.image(0);
            z.touch(0);
            z.touch(9);
            due.is("ahead of " + names[i], z.status(), -2);
            fineCall(z, i);
            due.is(names[i] + " is not refused", z.status(), 0);
        }
    }

    private static int refusedCall(HedgeCouncil x, int which) {
        switch (which) {
            case 0: return x.hedgehog(10, 0);
            case 1: return x.watch(0, 3, 1);
            case 2: return x.terms(4, 0);
            case 3: return x.row();
            case 4: return x.law();
            case 5: return Due.orders(x, "pass");
            case 6: return x.force(0);
            case 7: return x.touch(3);
            case 8: return x.coax(3);
            case 9: return x.tempt(0, 9);
            case 10: return x.pass();
            case 11: return x.undo();
            case 12: return x.seen(61, 0);
            case 13: return x.councils(0, 0);
            case 14: return x.image(2);
            default: return x.back(0);
        }
    }

    private static void fineCall(HedgeCouncil x, int which) {
        switch (which) {
            case 0: x.hedgehog(0, 0); break;
            case 1: x.watch(0, 1, 1); break;
            case 2: x.terms(0, 0); break;
            case 3: Due.row(x, 10); break;
            case 4: Due.law(x, "shuts"); break;
            case 5: Due.orders(x, "pass if 1=2"); break;
            case 6: x.force(-1); break;
            case 7: x.touch(0); break;
            case 8: x.coax(0); break;
            case 9: x.tempt(0, 0); break;
            case 10: x.pass(); break;
            case 11: x.undo(); break;
            case 12: x.seen(0, 0); break;
            case 13: x.councils(0, 1); break;
            case 14: x.image(1); break;
            default: x.back(0); break;
        }
    }

    /** All that status() does not ask about. */
    private static void leaves(HedgeCouncil x) {
        x.of(0, 0);
        x.of(9, 9);
        x.feed(0, 0, 0, 0, 0);
        x.end(0);
        x.end(-1);
        x.burrs();
        x.fault();
        x.stopped();
        x.later(0);
        x.later(61);
        x.opens(0);
        x.opens(9);
        x.together();
        x.again();
        x.seeds(0);
        x.seeds(2);
        x.seedsFor(0, 0);
        x.seedsFor(9, 0);
        x.spread(0);
        x.spread(9);
        x.held(0, 0);
        x.held(9, 0);
        x.chain(0, 1, -1);
        x.chain(9, 1, -1);
        x.knots();
        x.heads(0);
        x.heads(2);
        x.forget();
        x.canBe();
        x.look(0);
        x.look(2);
        x.few(1, 1);
        x.few(0, 0);
        x.compare(-1);
        x.compare(9);
        x.drawn(0, 0);
        x.drawn(9, 0);
        x.count(0);
        x.count(16);
    }
}
