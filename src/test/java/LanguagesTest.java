/** The two languages (Terms II): what is read, where the faults are, what breaks. */
public final class LanguagesTest {
    private static final Due due = new Due();

    private LanguagesTest() {
    }

    public static void main(String[] args) {
        tokens();
        lawFaults();
        orderFaults();
        limits();
        sums();
        broken();
        tests();
        words();
        due.close();
    }

    /** The fault of a law, -1 if it is fine. */
    private static void law(String text, int place) {
        HedgeCouncil x = new HedgeCouncil();
        int told = Due.law(x, text);
        due.is("law <" + text + ">", told, place < 0 ? 0 : -6);
        due.is("fault of law <" + text + ">", x.fault(), place);
    }

    private static void orders(String text, int place) {
        HedgeCouncil x = new HedgeCouncil();
        int told = Due.orders(x, text);
        due.is("orders <" + text + ">", told == -6 ? 1 : 0, place < 0 ? 0 : 1);
        due.is("fault of orders <" + text + ">", x.fault(), place);
    }

    private static void tokens() {
        due.promise(10, "law: tokens");
        law("needs1", -1);
        law("  needs   1  ;  shuts  ", -1);
        law("needs1if2<3and4>5or not6=7;shuts", -1);
        law("needs1if2<3and4>5ornot6=7;shuts", 17);
        law("needs[1]", -1);
        law("needsif", 0);
        law("needsz 1", 0);
        law("aneeds 1", 0);
        law("needs1and", 6);
        law("touch 1", 0);
        law("(".repeat(400), 0);
        law("shuts" + ";".repeat(395), 6);
        law("shuts" + " ".repeat(395), -1);
        law("Needs 1", 0);
        law("needs\t1", 5);
        law("needs\0", 5);
        law("needs 1\377", 7);
        law("needs 1 2", 8);
        law("needs 1000", -1);
        law("needs 1001", 6);
        law("needs 10000", 6);
        law("needs 0000000000001000", -1);
        law("needs 99999999999999999999", 6);
        law("needs 4294967297", 6);
        law("needs -1", 6);
    }

    private static void lawFaults() {
        due.promise(10, "law: faults");
        law("", 0);
        law(" ", 1);
        law(";shuts", 0);
        law("shuts;", 6);
        law("shuts;  ", 8);
        law("shuts;;shuts", 6);
        law("shuts if", 8);
        law("shuts if 1", 10);
        law("shuts if 1 < 2 < 3", 15);
        law("shuts if 1 < 2 and", 18);
        law("shuts if 1 < 2 and or", 19);
        law("shuts if (1 < 2", 15);
        law("shuts if (1) < 2", 11);
        law("shuts if [1 < 2]", 12);
        law("shuts if [1] < 2", -1);
        law("shuts if ((1 < 2))", -1);
        law("shuts if (1 < 2))", 16);
        law("shuts if not not (not 1 = 2)", -1);
        law("shuts if not", 12);
        law("shuts if done = 1", 9);
        law("shuts if is 1 = 1", 9);
        law("shuts if latest = 1", 9);
        law("needs want 1", 11);
        law("needs 1 times 2", 8);
        law("needs 1 +", 9);
        law("needs + 1", 6);
        law("needs 1 if 1 = 1 if 1 = 1", 17);
        law("wants 1 2", 8);
        law("needs needs", 6);
        law("pass", 0);
        law("shuts if (1 = 1 or not [who + want] * shy > near % 2) and all - still = minute / hush or mood = 1", -1);
    }

    private static void orderFaults() {
        due.promise(11, "orders: faults");
        orders("needs 1", 0);
        orders("if", 0);
        orders("touch", 5);
        orders("touch to", 6);
        orders("tempt 1 to", 10);
        orders("tempt 1 to 2 to 3", 13);
        orders("pass 1", 5);
        orders("pass times", 10);
        orders("pass times 1", -1);
        orders("pass times 20", -1);
        orders("pass times 0020", -1);
        orders("pass times 21", 11);
        orders("pass times minute", 11);
        orders("pass times 1 + 1", 13);
        orders("pass if 1 = 1 times 2", 14);
        orders("pass times 2 if 1 = 1", -1);
        orders("touch want", 10);
        orders("touch want minute", 11);
        orders("touch want 07", -1);
        orders("touch still 8", 12);
        orders("touch is [1]", 9);
        orders("touch near", 6);
        orders("touch who", 6);
        orders("touch shy", 6);
        orders("touch hush", 6);
        orders("touch mood", 6);
        orders("pass if minute + done - latest * all = want 0 / still 7 % is 3", -1);
        orders("coax 1 to 2", 7);
        orders("pass;pass;", 10);
    }

    private static void limits() {
        due.promise(10, "law: limits");
        law("shuts" + ";shuts".repeat(11), -1);
        law("shuts" + ";shuts".repeat(11) + " ;  shuts", 75);
        law("shuts" + ";shuts".repeat(11) + ";", 72);
        law("shuts" + ";shuts".repeat(11) + ";what", 72);
        law("needs 1" + "+1".repeat(49), -1);
        law("needs 1" + "+1".repeat(50), 7 + 2 * 49 + 1);
        law("needs 1" + "+1".repeat(49) + "+", 7 + 2 * 49 + 1);
        law("needs 1" + "+1".repeat(48) + ";needs who;needs all", 7 + 2 * 48 + 17);
        law("needs " + "[".repeat(8) + "1" + "]".repeat(8), -1);
        law("needs " + "[".repeat(9) + "1" + "]".repeat(9), 14);
        law("needs " + "[".repeat(8) + "1" + "]".repeat(8) + "+[1]", -1);
        law("shuts if ((((([[[1]]]=1)))))", -1);
        law("shuts if ((((([[[[1]]]]=1)))))", 17);
        law("shuts if (((((((((1=1)))))))))", 17);
        law("shuts if " + "not ".repeat(90) + "1=1", -1);
        law("shuts if " + "not ".repeat(97) + "1=", 399);
        orders("tempt 0 to 1" + "+1".repeat(48), -1);
        orders("tempt 0 to 1" + "+1".repeat(49), 12 + 2 * 48 + 1);
        orders("touch is 0" + "+is 0".repeat(49) + " times 3", -1);
        orders("touch is 0" + "+is 0".repeat(50), 10 + 5 * 49 + 1);
        due.promise(11, "orders: limits");
        HedgeCouncil x = Due.council(1, 1);
        due.is("twelve clauses", Due.orders(x, "pass times 20" + ";pass times 20".repeat(11)), 240);
        due.is("count(12)", x.count(12), 240);
        due.is("nots in a row", Due.orders(x, "pass if " + "not ".repeat(91) + "1=2"), 1);
        due.is("nots in a row", Due.orders(x, "pass if " + "not ".repeat(90) + "1=2"), 0);
        String deep = "1+1*[".repeat(8) + "1+1*1" + "]".repeat(8);
        due.is("as much as can wait", Due.orders(x, "pass if 10=" + deep), 1);
        due.is("many ors", Due.orders(x, "pass if 1=2" + " or 1=2".repeat(23) + " or 1=1"), 1);
        due.is("many ands", Due.orders(x, "pass if 1=1" + " and 1=1".repeat(23) + " and 1=2"), 0);
        Due.law(x, "needs " + "[".repeat(8) + "what");
        Due.law(x, "shuts if 1" + "+1".repeat(40) + "what");
        due.is("nothing is left of a text that had a fault", Due.law(x, "needs " + "[".repeat(8) + "1" + "]".repeat(8)), 0);
        for (int i = 0; i < 12; i++) due.is("one text after another", Due.orders(x, "touch 1" + "+1".repeat(48) + "-49"), 1);
        x.force(0);
        due.is("the law is as it was", x.of(0, 5), 1);
        Due.tape(x, "needs 15");
        x.end(7);
        x.force(x.law());
        due.is("nothing is left of the tape", x.of(0, 5), 1);
    }

    /** A sum by way of what a hedgehog is tempted to. */
    private static void sum(String text, int value) {
        HedgeCouncil x = Due.council(1, 9);
        due.is("sum " + text, Due.orders(x, "tempt 0 to [" + text + "]-[" + value + "]+5"), 1);
        due.is("sum " + text, x.of(0, 0), 5);
    }

    private static void sums() {
        due.promise(11, "orders: sums");
        sum("2+3*4", 14);
        sum("2*3+4", 10);
        sum("10-3-4", 3);
        sum("100/10/5", 2);
        sum("100/7*7", 98);
        sum("100%7*2", 4);
        sum("[2+3]*4", 20);
        sum("0-[0-7]/2", 3);
        sum("1000+[0-7]/2", 997);
        sum("1000+[0-7]%2", 999);
        sum("7%[0-2]", 1);
        sum("1000*1000/1000", 1000);
    }

    private static void isBroken(String sum, boolean so) {
        HedgeCouncil x = Due.council(1, 9);
        due.is("orders with " + sum, Due.orders(x, "touch [" + sum + "]*0"), so ? -3 : 1);
        due.is("a test with " + sum, Due.orders(x, "touch 0 if " + sum + "=0 or 1=1"), so ? 0 : 1);
        due.is("not a test with " + sum, Due.orders(x, "touch 0 if not " + sum + "=0 or 1=1"), so ? 0 : 1);
    }

    private static void broken() {
        due.promise(11, "orders: broken");
        isBroken("1/0", true);
        isBroken("1%0", true);
        isBroken("0/0", true);
        isBroken("1000*1000*1000", false);
        isBroken("1000*1000*1000+0", false);
        isBroken("1000*1000*1000+1", true);
        isBroken("1000*1000*1000+1-1", true);
        isBroken("0-1000*1000*1000", false);
        isBroken("0-1000*1000*1000-1", true);
        isBroken("1000*1000*1000*2", true);
        isBroken("1000*1000*1000*0", false);
        isBroken("1000*1000*1000*1000/1000", true);
        isBroken("[0-1000]*1000*1000*2", true);
        due.promise(10, "law: broken");
        HedgeCouncil x = Due.council(1, 4);
        Due.law(x, "needs 6;needs 7/0;needs 8 if 1/0=1;wants 7 % [shy - shy];shuts if 1/0 = 1 or 1 = 1");
        x.force(0);
        due.is("the last that holds", x.of(0, 5), 6);
        due.is("none holds", x.of(0, 6), 4);
        due.is("a test that is broken", x.of(0, 7), 0);
        Due.law(x, "shuts if 1 = 1 or 1/0 = 1;needs 2 if not (1 = 2 and 1/0 = 1);needs 3 if 1 = 1 and 1/0 = 1");
        x.force(1);
        due.is("asked only if it can still matter", x.of(0, 7), 1);
        due.is("asked only if it can still matter", x.of(0, 5), 2);
    }

    private static void test(String text, boolean so) {
        HedgeCouncil x = Due.council(1, 9);
        due.is("test " + text, Due.orders(x, "touch 0 if " + text), so ? 1 : 0);
    }

    private static void tests() {
        due.promise(11, "orders: tests");
        String yes = "1=1";
        String no = "1=2";
        test("1<2", true);
        test("2<2", false);
        test("2>1", true);
        test("2>2", false);
        test("0-1<0", true);
        test(yes + " or " + yes + " and " + no, true);
        test("(" + yes + " or " + yes + ") and " + no, false);
        test(no + " and " + yes + " or " + yes, true);
        test(no + " and (" + yes + " or " + yes + ")", false);
        test("not " + yes + " or " + yes, true);
        test("not (" + yes + " or " + yes + ")", false);
        test("not " + yes + " and " + yes, false);
        test("not " + no + " and " + yes, true);
        test("not " + no + " and " + no, false);
        test("not not " + yes, true);
        test(no + " or " + no + " or " + yes, true);
        test(yes + " and " + yes + " and " + no, false);
        test(yes + " and " + no + " or " + no + " or " + yes + " and not " + no, true);
    }

    private static void words() {
        due.promise(4, "of: the words of laws");
        HedgeCouncil x = new HedgeCouncil();
        x.hedgehog(3, 8);
        x.hedgehog(5, 7);
        x.hedgehog(4, 6);
        x.watch(2, 0, 1);
        x.watch(2, 1, 1);
        x.coax(1);
        x.coax(2);
        x.pass();
        x.pass();
        x.touch(0);
        x.terms(0, 9);
        x.terms(2, 6);
        x.terms(3, 5);
        String[] word = {"who", "want", "shy", "near", "all", "still"};
        int[] due2 = {2, 4, 6, 1, 2, 2};
        for (int i = 0; i < 6; i++) {
            Due.law(x, "needs " + word[i]);
            x.force(i);
            due.is(word[i], x.of(2, 5), due2[i]);
        }
        HedgeCouncil y = Due.council(1, 1);
        y.terms(0, 9);
        y.terms(2, 6);
        y.terms(3, 5);
        Due.law(y, "needs minute");
        Due.law(y, "needs hush");
        Due.law(y, "needs mood");
        int[] due3 = {9, 6, 5};
        for (int i = 0; i < 3; i++) {
            y.force(i);
            due.is("minute, hush, mood", y.of(0, 5), due3[i]);
        }
    }
}
