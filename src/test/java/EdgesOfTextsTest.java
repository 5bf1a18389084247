/** Each sentence of the document's Terms II (the TAPE, the two languages) that names a boundary case, with a test of its own. */
public final class EdgesOfTextsTest {
    private static final Due due = new Due();

    private EdgesOfTextsTest() {
    }

    public static void main(String[] args) {
        tapeRoom();
        letters();
        digits();
        otherBytes();
        blanks();
        clauses();
        tests();
        plains();
        sums();
        numbers();
        parts();
        brackets();
        faults();
        firstOfTwoFaults();
        faultAtTheEnd();
        beyond();
        divided();
        onlyIfItCanMatter();
        lawRoom();
        lawWords();
        lawClauses();
        holds();
        needs();
        comesTo();
        closes();
        orderClauses();
        times();
        orderWords();
        ofWhom();
        eachTime();
        doneAndLatest();
        whollyOrNotAtAll();
        due.close();
    }

    /** A law that is fine (fault NONE), or has its fault there. */
    private static void law(String text, int fault) {
        HedgeCouncil x = new HedgeCouncil();
        due.is("law <" + text + ">", Due.law(x, text), fault < 0 ? 0 : -6);
        due.is("fault of law <" + text + ">", x.fault(), fault);
    }

    /** Orders that are fine (fault NONE), or have their fault there. */
    private static void orders(String text, int fault) {
        HedgeCouncil x = Due.council(8, 9);
        int told = Due.orders(x, text);
        due.isSo("orders <" + text + "> answered " + told, told == -6 == (fault >= 0));
        due.is("fault of orders <" + text + ">", x.fault(), fault);
    }

    private static void both(String test, int fault) {
        law("shuts if " + test, fault < 0 ? fault : 9 + fault);
        orders("pass if " + test, fault < 0 ? fault : 8 + fault);
    }

    /** 1 so, 0 not so or broken, for a law and for orders. */
    private static void so(String test, int is) {
        due.is("law: " + test, Due.under(Due.council(1, 9), "shuts if " + test).of(0, 7), is);
        due.is("orders: " + test, Due.orders(Due.council(1, 9), "touch 0 if " + test), is);
    }

    /** A sum has a value, for a law and for orders; a test that it has not is so nowhere. */
    private static void value(String sum, String value) {
        so("[" + sum + "] = " + value, 1);
        so("not [" + sum + "] = " + value, 0);
    }

    private static void broken(String sum) {
        so("[" + sum + "] = 0", 0);
        so("not [" + sum + "] = 0", 0);
        so("[" + sum + "] * 0 = 0", 0);
        due.is("orders: " + sum, Due.orders(Due.council(1, 9), "touch [" + sum + "] * 0"), -3);
        due.is("law: " + sum, Due.under(Due.council(1, 4), "needs 6; needs " + sum).of(0, 5), 6);
    }

    private static void tapeRoom() {
        due.sentence("II", "TEXTS are on a TAPE of at most 400 bytes");
        law("shuts" + " ".repeat(390) + ";shut", 396);
        law("shuts" + " ".repeat(389) + ";shuts", -1);
        orders("pass" + " ".repeat(391) + ";pass", -1);
        HedgeCouncil x = Due.council(1, 9);
        Due.tape(x, " ".repeat(393) + "touch 1");
        due.is("count(5)", x.count(5), 400);
        due.is("a 401st byte can't be", x.feed(0, 0, 0, 0, 0), -1);
        due.is("the tape is as it was: the last byte counts", x.orders(), -3);
        Due.tape(x, " ".repeat(393) + "touch 0");
        due.is("the tape is as it was: the last byte counts", x.orders(), 1);
        law("shuts if " + "(".repeat(391), 9 + 8);
        law("s".repeat(400), 0);
        law("needs " + "0".repeat(393) + "5", -1);
        law("needs " + "9".repeat(394), 6);
    }

    private static void letters() {
        due.sentence("II", "TOKENS: longest rows of letters a .. z");
        law("shutsa", 0);
        law("shutsz", 0);
        law("ashuts", 0);
        law("zshuts", 0);
        law("shut", 0);
        law("huts", 0);
        law("shutsshuts", 0);
        law("shuts shuts", 6);
        law("shuts`", 5);
        law("shuts{", 5);
        law("`shuts", 0);
        law("shutsA", 5);
        law("shutsZ", 5);
        law("Shuts", 0);
        law("SHUTS", 0);
        law("s", 0);
        law("shuts if 1=1 or2=2", -1);
        law("shuts if 1=1 orwho=2", 13);
        law("shuts if not1=2", -1);
        law("shuts if notwho=2", 9);
        orders("passtimes 2", 0);
        orders("pass times2", -1);
    }

    private static void digits() {
        due.sentence("II", "TOKENS: longest rows .. of digits");
        value("10", "9 + 1");
        value("90", "9 * 9 + 9");
        law("needs 1 0", 8);
        law("needs 1/", 8);
        law("needs 1:", 7);
        law("needs /1", 6);
        law("needs :1", 6);
        law("needs0", -1);
        law("needs9", -1);
        law("needs 1a", 7);
        law("needs 1if 1=1", -1);
        orders("tempt 0to 1if 1=1", -1);
        orders("touch is0+is0", -1);
    }

    private static void otherBytes() {
        due.sentence("II", "TOKENS: .. single other bytes");
        for (int b = 0; b < 256; b++) {
            boolean row = b >= 'a' && b <= 'z' || b >= '0' && b <= '9';
            boolean goesOn = b == ' ' || row || "+-*/%;".indexOf(b) >= 0;
            if (!goesOn) law("needs 1" + (char) b + (char) b + " 1", 7);
        }
        law("needs 1++1", 8);
        law("shuts if 1==1", 11);
        law("shuts if 1<=1", 11);
        law("shuts;;shuts", 6);
        law("needs [[1]]", -1);
    }

    private static void blanks() {
        due.sentence("II", "TOKENS: .. any blanks (32) between");
        law("needs1if2<3and4>5;shuts", -1);
        law("   needs   1   +   1   if   (   1   =   1   )   ;   shuts   ", -1);
        law("needs 1+1*[2-1]if(1=1)or not(2>1)", -1);
        law("nee ds 1", 0);
        law("needs\t1", 5);
        law("needs\n1", 5);
        law("needs" + (char) 31 + "1", 5);
        law("needs" + (char) 33 + "1", 5);
        law("needs" + (char) 0 + "1", 5);
        law("needs" + (char) 160 + "1", 5);
        law("shuts" + (char) 0, 5);
        law((char) 0 + "shuts", 0);
        law("", 0);
        law(" ", 1);
        law(" ".repeat(400), 400);
        orders("", 0);
        orders(" ", 1);
        orders(" ".repeat(400), 400);
    }

    private static void clauses() {
        due.sentence("II", "CLAUSE {\";\" CLAUSE}, 12 at most (FAULT at the 13th's first TOKEN)");
        law("shuts", -1);
        law("shuts" + ";shuts".repeat(11), -1);
        law("shuts" + ";shuts".repeat(12), 72);
        law("shuts" + ";shuts".repeat(13), 72);
        law("shuts" + ";shuts".repeat(11) + " ;   needs 1", 76);
        law("shuts" + ";shuts".repeat(11) + ";;", 72);
        law("shuts" + ";shuts".repeat(11) + ";", 72);
        law("shuts" + ";shuts".repeat(11) + " shuts", 72);
        law("shuts" + ";shuts".repeat(11) + ";shuts what", 72);
        orders("pass" + ";pass".repeat(11), -1);
        orders("pass" + ";pass".repeat(12), 60);
        orders("pass" + ";pass".repeat(11) + ";", 60);
        orders("pass" + ";pass".repeat(11) + ";  touch", 62);
        law(";", 0);
        law("shuts;", 6);
        law("shuts; ", 7);
        law(";shuts", 0);
        HedgeCouncil x = Due.under(Due.council(1, 9), "needs 1" + ";needs 1".repeat(10) + ";needs 7");
        due.is("the twelfth counts", x.of(0, 5), 7);
        HedgeCouncil y = Due.council(1, 9);
        due.is("the twelfth is run", Due.orders(y, "touch 0" + ";touch 0".repeat(10) + ";tempt 0 to 3"), 12);
        due.is("the twelfth is run", y.of(0, 0), 3);
        due.is("the twelfth can't be", Due.orders(y, "touch 0" + ";touch 0".repeat(10) + ";tempt 0 to 3"), -3);
        due.is("the twelfth can't be", y.stopped(), 11);
    }

    private static void tests() {
        due.sentence("II", "TEST: BOTH {\"or\" BOTH}. BOTH: PLAIN {\"and\" PLAIN}");
        so("1=1", 1);
        so("1=1 or 1=1 and 1=2", 1);
        so("1=2 and 1=1 or 1=1", 1);
        so("(1=1 or 1=1) and 1=2", 0);
        so("1=2 and (1=1 or 1=1)", 0);
        so("1=2 or 1=2", 0);
        so("1=2 or 1=1", 1);
        so("1=1 and 1=2", 0);
        so("1=1 and 1=1", 1);
        so("1=2" + " or 1=2".repeat(22) + " or 1=1", 1);
        so("1=1" + " and 1=1".repeat(22) + " and 1=2", 0);
        both("1=1 or", 6);
        both("1=1 and", 7);
        both("or 1=1", 0);
        both("and 1=1", 0);
        both("1=1 or and 1=1", 7);
        both("1=1 1=1", 4);
        both("", 0);
    }

    private static void plains() {
        due.sentence("II", "PLAIN: \"not\" PLAIN | \"(\" TEST \")\" | SUM (\"<\" | \">\" | \"=\") SUM");
        so("1<2", 1);
        so("2<2", 0);
        so("3<2", 0);
        so("1>2", 0);
        so("2>2", 0);
        so("3>2", 1);
        so("1=2", 0);
        so("2=2", 1);
        so("3=2", 0);
        so("0-1<0", 1);
        so("not 1=2", 1);
        so("not 1=1", 0);
        for (String sign : new String[] {"<", ">", "="}) {
            for (int a = 1; a <= 3; a++) {
                boolean is = sign.equals("<") ? a < 2 : sign.equals(">") ? a > 2 : a == 2;
                String test = a + sign + "2";
                so(test, is ? 1 : 0);
                so("not " + test, is ? 0 : 1);
                so("not not " + test, is ? 1 : 0);
                so("not (" + test + " and 1=1)", is ? 0 : 1);
                so("not (" + test + " or 1=2)", is ? 0 : 1);
            }
        }
        so("not not 1=1", 1);
        so("not 1=1 or 1=1", 1);
        so("not (1=1 or 1=1)", 0);
        so("not 1=2 and 1=2", 0);
        so("not (1=2 and 1=2)", 1);
        so("not ".repeat(94) + "1=1", 1);
        so("not ".repeat(95) + "1=2", 1);
        both("not", 3);
        both("not and", 4);
        both("()", 1);
        both("(1=1", 4);
        both("(1=1]", 4);
        both("1=1)", 3);
        both("(1)=1", 2);
        both("[1=1]", 2);
        both("[1]=1", -1);
        both("1", 1);
        both("1 or 1=1", 2);
        both("1=1=1", 3);
        both("1<", 2);
        both("=1", 0);
    }

    private static void sums() {
        due.sentence("II", "SUM: TERM {(\"+\" | \"-\") TERM}. TERM: PART {(\"*\" | \"/\" | \"%\") PART}. PART: .. \"[\" SUM \"]\"");
        value("2+3*4", "14");
        value("2*3+4", "10");
        value("2*[3+4]", "14");
        value("10-3-4", "3");
        value("10-[3-4]", "11");
        value("10-3+4", "11");
        value("100/10/5", "2");
        value("100/[10/5]", "50");
        value("100/7*7", "98");
        value("100*7%9", "7");
        value("100%7*2", "4");
        value("0", "0");
        value("5-9", "0-4");
        law("needs", 5);
        law("needs +1", 6);
        law("needs 1+", 8);
        law("needs 1*", 8);
        law("needs 1-+1", 8);
        law("needs []", 7);
        law("needs [1", 8);
        law("needs [1)", 8);
        law("needs 1]", 7);
        law("needs (1)", 6);
    }

    private static void numbers() {
        due.sentence("II", "PART: NUMBER (to 1,000)");
        law("needs 0", -1);
        law("needs 1000", -1);
        law("needs 1001", 6);
        law("needs 1 + 1001", 10);
        law("needs 01000", -1);
        law("needs 01001", 6);
        law("needs 10000", 6);
        law("needs 2147483648", 6);
        law("needs 4294967296", 6);
        law("needs 18446744073709551617", 6);
        law("needs 1001 what", 6);
        orders("touch 1000", -1);
        orders("touch 1001", 6);
        value("1000", "999 + 1");
        value("0007", "7");
        so("1000 > 999", 1);
    }

    private static void parts() {
        due.sentence("II", "50 PARTS that are NUMBERS and words (FAULT at the 51st)");
        law("needs 1" + "+1".repeat(49), -1);
        law("needs 1" + "+1".repeat(50), 7 + 99);
        law("needs who" + "+who".repeat(49), -1);
        law("needs who" + "+who".repeat(50), 9 + 4 * 49 + 1);
        law("needs 1" + "+all".repeat(49) + ";shuts", -1);
        law("needs 1" + "+1".repeat(24) + " if 1" + "+1".repeat(23) + "=1", -1);
        law("needs 1" + "+1".repeat(24) + " if 1" + "+1".repeat(24) + "=1", 7 + 48 + 5 + 48 + 1);
        law("needs 1" + "+1".repeat(24) + ";needs 1" + "+1".repeat(24), -1);
        law("needs 1" + "+1".repeat(24) + ";needs 1" + "+1".repeat(24) + ";needs   1", 55 + 56 + 9);
        law("needs 1" + "+1".repeat(49) + "+[", 7 + 98 + 2);
        law("needs 1" + "+1".repeat(49) + "+[1]", 7 + 98 + 2);
        law("needs [1]" + "+[1]".repeat(49), -1);
        law("needs [1]" + "+[1]".repeat(50), 9 + 4 * 49 + 2);
        law("needs 1" + "+1".repeat(49) + "+", 7 + 98 + 1);
        orders("touch 1" + "+1".repeat(49), -1);
        orders("touch 1" + "+1".repeat(50), 7 + 99);
        orders("tempt 1" + "+1".repeat(24) + " to 1" + "+1".repeat(24), -1);
        orders("tempt 1" + "+1".repeat(24) + " to 1" + "+1".repeat(25), 55 + 5 + 48 + 1);
        due.sentence("II", "H, TIMES aside, NUMBERS and words count as PARTS");
        orders("touch is 0" + "+is 0".repeat(49), -1);
        orders("touch is 0" + "+is 0".repeat(50), 10 + 5 * 49 + 1);
        orders("touch is 0" + "+is 0".repeat(49) + " times 2;pass times 3", -1);
        orders("touch is 0" + "+is 0".repeat(49) + " times 2;touch 1", 10 + 5 * 49 + 15);
        orders("touch want 0" + "+done".repeat(49), -1);
        orders("touch want 0" + "+done".repeat(50), 12 + 5 * 49 + 1);
        HedgeCouncil x = Due.council(1, 9);
        for (int i = 0; i < 3; i++) due.is("each text has 50", Due.orders(x, "touch 1" + "+1".repeat(48) + "-49"), 1);
        HedgeCouncil y = Due.under(Due.council(1, 9), "needs 9-1" + "*1".repeat(46) + "+1-2");
        due.is("the fiftieth counts", y.of(0, 5), 9 - 1 + 1 - 2);
    }

    private static void brackets() {
        due.sentence("II", "8 brackets of both kinds within one another (FAULT at the 9th) at most");
        law("needs " + "[".repeat(8) + "1" + "]".repeat(8), -1);
        law("needs " + "[".repeat(9) + "1" + "]".repeat(9), 14);
        both("(".repeat(8) + "1=1" + ")".repeat(8), -1);
        both("(".repeat(9) + "1=1" + ")".repeat(9), 8);
        both("((((([[[1]]]=1)))))", -1);
        both("((((([[[[1]]]]=1)))))", 8);
        both("((((((((1=[1]))))))))", 10);
        both("(((((((1=[1])))))))", -1);
        both("(((((((1=[[1]])))))))", 10);
        law("needs " + "[".repeat(8) + "1" + "]".repeat(8) + "+" + "[".repeat(8) + "1" + "]".repeat(8), -1);
        law("needs " + "[".repeat(8) + "1" + "]".repeat(8) + "+" + "[".repeat(9) + "1", 23 + 1 + 8);
        law("needs [[[[[[[[1]+[1]]]]]]]]", -1);
        law("needs [[[[[[[[1]+[[1]]]]]]]]]", 18);
        law("needs [1" + "]+[1".repeat(20) + "]", -1);
        law("needs " + "[".repeat(8) + "1" + "]".repeat(8) + " if " + "(".repeat(8) + "1=1" + ")".repeat(8), -1);
        HedgeCouncil x = new HedgeCouncil();
        due.is("eight are left open", Due.law(x, "needs " + "[".repeat(8) + "1"), -6);
        due.is("the next text has eight of its own", Due.law(x, "needs " + "[".repeat(8) + "1" + "]".repeat(8)), 0);
        value("1+2*[".repeat(6) + "1" + "]".repeat(6), "127");
        due.is("what waits at each of eight", Due.orders(Due.council(1, 9),
            "touch 0 if 511 = " + "1+2*[".repeat(8) + "1" + "]".repeat(8)), 1);
        due.is("what waits at each of eight", Due.orders(Due.council(1, 9),
            "touch 0 if 1+1*[1+1*1] < " + "1+2*[".repeat(8) + "1+2*0" + "]".repeat(8)), 1);
    }

    private static void faults() {
        due.sentence("II", "FAULT: the first TOKEN that can't go on there");
        law("what", 0);
        law("shuts what shuts what", 6);
        law("needs 1 what", 8);
        law("needs what 1", 6);
        law("shuts if 1=1 if 1=1", 13);
        law("needs 1 if 1=1 1=1 ;", 15);
        law("needs [+1]", 7);
        law("needs [*2]*2", 7);
        law("needs [1+]+1", 9);
        law("needs [[-1]]-1", 8);
        law("shuts if (and 1=1)", 10);
        law("shuts if (or 1=1) or 1=1", 10);
        law("shuts if (1 and 1=1) and 1=1", 12);
        law("shuts if not (<1) <1", 14);
        law("shuts if 1+[what] what", 12);
        law("if 1=1", 0);
        law("1", 0);
        law("shuts 1", 6);
        law("wants", 5);
        orders("pass pass", 5);
        orders("pass 1", 5);
        orders("touch 0 1", 8);
        orders("touch 0 to 1", 8);
        orders("tempt 0 1", 8);
        orders("tempt to 1", 6);
        orders("tempt 0 if 1=1 to 1", 8);
        orders("pass times 2 times 2", 13);
        orders("pass if 1=1 times 2", 12);
        orders("times 2", 0);
        HedgeCouncil x = new HedgeCouncil();
        Due.law(x, "shuts what");
        due.is("a fault is told", x.fault(), 6);
        Due.law(x, "shuts");
        due.is("NONE without", x.fault(), -1);
    }

    /** Each has another fault further on, where what follows would go on if the first were passed over. */
    private static void firstOfTwoFaults() {
        due.sentence("II", "FAULT: the first TOKEN that can't go on there");
        law("needs ;shuts what", 6);
        law("shuts if ;shuts what", 9);
        law("wants if 1=1 what", 6);
        law("needs + 1 what", 6);
        law("needs * 1 what", 6);
        law("needs 1 + * 1 what", 10);
        law("needs 1 * + 1 what", 10);
        law("needs [;shuts what", 7);
        law("shuts if 1 < and 1=1 what", 13);
        law("shuts if < 1 what", 9);
        law("shuts if and 1=1 what", 9);
        law("shuts if not or 1=1 what", 13);
        law("shuts if (1=1 ; shuts what", 14);
        law("needs 1001 + 1 what", 6);
        law("needs 1" + "+1".repeat(50) + " what", 106);
        law("needs " + "[".repeat(9) + "1 what", 14);
        law("shuts" + ";shuts".repeat(12) + " what", 72);
        orders("touch if 1=1 what", 6);
        orders("touch times 2 what", 6);
        orders("tempt if 1=1 what", 6);
        orders("tempt to 1 what", 6);
        orders("tempt 0 to if 1=1 what", 11);
        orders("tempt 0 to times 2 what", 11);
        orders("tempt 0 if 1=1 what", 8);
        orders("tempt 0 times 2 what", 8);
        orders("pass times if 1=1 what", 11);
        orders("pass times 21 if 1=1 what", 11);
        orders("pass times ;pass what", 11);
        orders("touch want + 1 what", 11);
        orders("touch want 8 + 1 what", 11);
        orders("touch ;pass what", 6);
    }

    private static void faultAtTheEnd() {
        due.sentence("II", "(the end's: the TEXT's length)");
        law("needs", 5);
        law("needs ", 6);
        law("needs    ", 9);
        law("needs 1 +   ", 12);
        law("needs [1   ", 11);
        law("shuts if", 8);
        law("shuts if not  ", 14);
        law("shuts if 1   ", 13);
        law("shuts;   ", 9);
        law("shuts" + " ".repeat(390) + "    ;", 400);
        orders("touch", 5);
        orders("tempt 1", 7);
        orders("tempt 1 to  ", 12);
        orders("pass times ", 11);
        orders("pass if ", 8);
        orders("touch want ", 11);
    }

    private static void beyond() {
        due.sentence("II", "Beyond 1,000,000,000 either way .. a SUM, a TEST is BROKEN");
        String most = "1000*1000*1000";
        value(most, most);
        value(most + "+0", most);
        value("999+[" + most + "-999]", most);
        value("0-" + most, "0-[" + most + "]");
        value("1-" + most + "-1", "0-" + most);
        value("[0-1000]*1000*1000", "0-" + most);
        value(most + "/1000", "1000*1000");
        broken(most + "+1");
        broken("1+" + most);
        broken("0-" + most + "-1");
        broken("0-1-" + most);
        broken(most + "*2");
        broken("[0-1000]*1000*1000-1");
        broken("[0-1000]*1000*[1000+1]");
        broken("1000*1000*[1000+1]");
        broken(most + "+1-1");
        broken(most + "*1000/1000");
        broken(most + "*1000*1000*1000*1000*1000*1000*1000");
        broken("[" + most + "]*[" + most + "]*[" + most + "]");
        broken("[0-" + most + "]*[" + most + "]");
        so("1 < 1000*1000*[1000+1]", 0);
        so("1000*1000*[1000+1] > 1", 0);
        so("1 < " + most, 1);
        so("0-" + most + " < 0", 1);
    }

    private static void divided() {
        due.sentence("II", "divided by 0");
        broken("1/0");
        broken("1%0");
        broken("0/0");
        broken("0%0");
        broken("1/[1-1]");
        broken("1000*1000*1000/0");
        value("0/1", "0");
        value("0%1", "0");
        due.sentence("II", "(/ cut towards 0, % what is left then)");
        value("7/2", "3");
        value("[0-7]/2", "0-3");
        value("7/[0-2]", "0-3");
        value("[0-7]/[0-2]", "3");
        value("1/2", "0");
        value("[0-1]/2", "0");
        value("7%2", "1");
        value("[0-7]%2", "0-1");
        value("7%[0-2]", "1");
        value("[0-7]%[0-2]", "0-1");
        value("6%2", "0");
        value("1%1000", "1");
        value("[0-1000*1000*1000]/[0-1]", "1000*1000*1000");
    }

    private static void onlyIfItCanMatter() {
        due.sentence("II", "(\"or\", \"and\" ask what stands behind only if it can still matter)");
        so("1=1 or 1/0=1", 1);
        so("1=2 or 1/0=1", 0);
        so("not (1=2 or 1/0=1)", 0);
        so("1=2 and 1/0=1", 0);
        so("not (1=2 and 1/0=1)", 1);
        so("1=1 and 1/0=1", 0);
        so("not (1=1 and 1/0=1)", 0);
        so("1/0=1 or 1=1", 0);
        so("not (1/0=1 and 1=2)", 0);
        so("1=1 or 1=2 or 1/0=1", 1);
        so("1=2 or 1=1 or 1/0=1", 1);
        so("not (1=1 and 1=2 and 1/0=1)", 1);
        so("not (1=2 and 1=1 and 1/0=1)", 1);
        so("1=2 and 1/0=1 or 1=1", 1);
        so("1=1 or 1/0=1 and 1/0=1", 1);
        so("(1=1 or 1/0=1) and 1=1", 1);
        so("(1=1 or 1/0=1) and 1=2", 0);
        so("1=1 and (1=2 or 1/0=1)", 0);
        so("1=1 or (1=1 and (1/0=1))", 1);
        so("not 1=2 or 1/0=1", 1);
        so("not 1/0=1", 0);
    }

    private static void lawRoom() {
        due.sentence("II", "LAWS, 6 at most; one is in FORCE (NONE at first: no CLAUSE)");
        HedgeCouncil x = Due.council(1, 9);
        due.is("none at first", x.count(11), -1);
        due.is("no clause: needs", x.of(0, 5), 9);
        due.is("no clause: comes to", x.of(0, 6), 9);
        due.is("no clause: closes", x.of(0, 7), 0);
        for (int i = 0; i < 6; i++) due.is("law " + i, Due.law(x, "needs " + i), i);
        due.is("a seventh", Due.law(x, "needs 6"), -5);
        due.is("count(3)", x.count(3), 6);
        due.is("none as yet", x.count(11), -1);
        due.is("the first can be in force", x.force(0), -1);
        due.is("the first", x.of(0, 5), 0);
        due.is("the last can be in force", x.force(5), 0);
        due.is("the last", x.of(0, 5), 5);
        due.is("the seventh can't", x.force(6), -2);
        due.is("none again", x.force(-1), 5);
        due.is("no clause", x.of(0, 5), 9);
        due.is("-2 can't", x.force(-2), -2);
    }

    private static void lawWords() {
        due.sentence("II", "All are asked of a HEDGEHOG (near: how many of those it WATCHES are OPEN; all: how many are OPEN, itself, too; minute: MINUTE as it is then)");
        HedgeCouncil x = Due.council(8, 9);
        for (int h = 1; h < 8; h++) x.watch(0, h, 1);
        Due.law(x, "needs near");
        Due.law(x, "needs all");
        x.force(0);
        due.is("none is open", x.of(0, 5), 0);
        x.coax(0);
        due.is("itself is not near", x.of(0, 5), 0);
        x.force(1);
        due.is("itself, too", x.of(0, 5), 1);
        due.is("of others, too", x.of(7, 5), 1);
        for (int h = 1; h < 8; h++) x.coax(h);
        due.is("all", x.of(3, 5), 8);
        x.force(0);
        due.is("near", x.of(0, 5), 7);
        due.is("one that watches none", x.of(1, 5), 0);
        HedgeCouncil y = Due.under(Due.council(8, 3), "wants who");
        for (int h = 0; h < 8; h++) due.is("who", y.of(h, 6), h);
        HedgeCouncil m = Due.under(Due.council(1, 3), "wants minute - 999");
        m.terms(0, 999);
        due.is("as it is then", m.of(0, 6), 0);
        HedgeCouncil then = Due.under(Due.council(1, 9), "needs 0 if minute = 3");
        due.is("as it is then, on paper", then.opens(0), 4);
        then.terms(0, 3);
        due.is("as it is then, on paper", then.opens(0), 1);
        HedgeCouncil most = new HedgeCouncil();
        most.hedgehog(9, 9);
        most.terms(0, 999);
        most.terms(2, 9);
        most.terms(3, 9);
        due.is("the most", Due.under(most, "shuts if want + shy + hush + mood = 36 and minute = 999").of(0, 7), 1);
        HedgeCouncil least = new HedgeCouncil();
        least.hedgehog(0, 0);
        due.is("the least", Due.under(least, "shuts if who+want+shy+near+all+still+minute+hush+mood = 0").of(0, 7), 1);
        for (String word : new String[] {"done", "latest", "is 0", "starts", "h"}) law("needs " + word, 6);
    }

    private static void lawClauses() {
        due.sentence("II", "CLAUSE: ((\"needs\" | \"wants\") SUM | \"shuts\") [\"if\" TEST]");
        law("needs 1", -1);
        law("wants 1", -1);
        law("shuts", -1);
        law("needs 1 if 1=1", -1);
        law("wants 1 if 1=1", -1);
        law("shuts if 1=1", -1);
        for (String word : new String[] {"touch 0", "coax 0", "tempt 0 to 1", "pass", "if 1=1", "need 1", "times 2"}) law(word, 0);
    }

    private static void holds() {
        due.sentence("II", "A CLAUSE HOLDS, if its \"if\" (if it has one) is so, and neither that nor its SUM is BROKEN");
        due.is("without", Due.under(Due.council(1, 4), "needs 6").of(0, 5), 6);
        due.is("so", Due.under(Due.council(1, 4), "needs 6 if 1=1").of(0, 5), 6);
        due.is("not so", Due.under(Due.council(1, 4), "needs 6 if 1=2").of(0, 5), 4);
        due.is("a broken if", Due.under(Due.council(1, 4), "needs 6 if 1/0=1").of(0, 5), 4);
        due.is("a broken sum", Due.under(Due.council(1, 4), "needs 6/0").of(0, 5), 4);
        due.is("a broken sum, though so", Due.under(Due.council(1, 4), "needs 6/0 if 1=1").of(0, 5), 4);
        due.is("broken for one of them", Due.under(Due.council(2, 4), "needs 6/who").of(0, 5), 4);
        due.is("and not for the other one", Due.under(Due.council(2, 4), "needs 6/who").of(1, 5), 6);
        due.is("wants: a broken sum", Due.under(Due.council(1, 4), "wants 6/0").of(0, 6), 4);
        due.is("shuts: a broken if", Due.under(Due.council(1, 4), "shuts if 1/0=1").of(0, 7), 0);
    }

    private static void needs() {
        due.sentence("II", "One NEEDS 0 .. 9 as the last \"needs\" that HOLDS tells (else the nearest), as many as its WANT without");
        String[] sums = {"0", "9", "10", "0-1", "1000*1000*1000", "0-1000*1000*1000", "1000*1000*1000+1", "256", "0-256", "5"};
        int[] told = {0, 9, 9, 0, 9, 0, 4, 9, 0, 5};
        for (int i = 0; i < sums.length; i++) {
            due.is("needs " + sums[i], Due.under(Due.council(1, 4), "needs " + sums[i]).of(0, 5), told[i]);
        }
        due.is("the last", Due.under(Due.council(1, 4), "needs 1;needs 2;needs 3").of(0, 5), 3);
        due.is("the last that holds", Due.under(Due.council(1, 4), "needs 1;needs 2;needs 3 if 1=2").of(0, 5), 2);
        due.is("the last that holds", Due.under(Due.council(1, 4), "needs 1;needs 2/0;needs 3 if 1/0=1").of(0, 5), 1);
        due.is("no needs", Due.under(Due.council(1, 4), "wants 7;shuts").of(0, 5), 4);
        due.is("none that holds", Due.under(Due.council(1, 4), "needs 1 if 1=2;needs 2 if 1=2").of(0, 5), 4);
        due.is("it opens by the nearest", Due.under(Due.council(1, 4), "needs 0-1").of(0, 8), 1);
    }

    private static void comesTo() {
        due.sentence("II", "it comes to WANT 0 .. 9 as the last \"wants\" tells, what it WANTS without");
        String[] sums = {"0", "9", "10", "0-1", "1000*1000*1000", "0-1000*1000*1000", "1000*1000*1000+1", "want+1", "want-9"};
        int[] told = {0, 9, 9, 0, 9, 0, 4, 5, 0};
        for (int i = 0; i < sums.length; i++) {
            HedgeCouncil x = Due.under(Due.council(1, 4), "wants " + sums[i]);
            due.is("wants " + sums[i], x.of(0, 6), told[i]);
            due.is("as yet", x.of(0, 0), 4);
            x.pass();
            due.is("wants " + sums[i] + " behind a minute", x.of(0, 0), told[i]);
        }
        due.is("the last that holds", Due.under(Due.council(1, 4), "wants 1;wants 2;wants 3/0").of(0, 6), 2);
        due.is("no wants", Due.under(Due.council(1, 4), "needs 7;shuts").of(0, 6), 4);
        HedgeCouncil open = Due.under(Due.council(1, 4), "wants 7");
        open.coax(0);
        open.pass();
        due.is("one that is open, too", open.of(0, 0), 7);
        HedgeCouncil up = Due.under(Due.council(1, 8), "wants want + 1");
        up.pass();
        up.pass();
        due.is("9 stays", up.of(0, 0), 9);
    }

    private static void closes() {
        due.sentence("II", "it CLOSES, if \"shuts\" HOLDS");
        due.is("no shuts", Due.under(Due.council(1, 4), "needs 7;wants 7").of(0, 7), 0);
        due.is("holds", Due.under(Due.council(1, 4), "shuts").of(0, 7), 1);
        due.is("holds not", Due.under(Due.council(1, 4), "shuts if 1=2").of(0, 7), 0);
        due.is("the first holds", Due.under(Due.council(1, 4), "shuts;shuts if 1=2").of(0, 7), 1);
        due.is("the last holds", Due.under(Due.council(1, 4), "shuts if 1=2;shuts").of(0, 7), 1);
        due.is("the last is broken", Due.under(Due.council(1, 4), "shuts;shuts if 1/0=1").of(0, 7), 1);
    }

    private static void orderClauses() {
        due.sentence("II", "ORDERS: CLAUSE: (\"touch\" SUM | \"coax\" SUM | \"tempt\" SUM \"to\" SUM | \"pass\") [\"times\" TIMES] [\"if\" TEST]");
        for (String verb : new String[] {"touch 0", "coax 0", "tempt 0 to 1", "pass"}) {
            orders(verb, -1);
            orders(verb + " times 2", -1);
            orders(verb + " if 1=1", -1);
            orders(verb + " times 2 if 1=1", -1);
            orders(verb + " if 1=1 times 2", verb.length() + 8);
        }
        for (String word : new String[] {"needs 1", "wants 1", "shuts", "if 1=1", "to 1", "undo"}) orders(word, 0);
        HedgeCouncil x = Due.council(8, 9);
        due.is("the first and the last", Due.orders(x, "coax 0;coax 7;touch 0;tempt 7 to 0;tempt 0 to 0"), 5);
        due.is("the last", x.of(7, 0) + 10 * x.of(7, 3), 10);
        due.is("one beyond", Due.orders(x, "touch 8"), -3);
        due.is("one below", Due.orders(x, "touch 0-1"), -3);
        due.is("far beyond", Due.orders(x, "touch 1000*1000*1000"), -3);
        due.is("far below", Due.orders(x, "coax 0-1000*1000*1000"), -3);
        due.is("a want beyond", Due.orders(x, "tempt 1 to 10"), -3);
        due.is("a want below", Due.orders(x, "tempt 1 to 0-1"), -3);
        due.is("a want far beyond", Due.orders(x, "tempt 1 to 1000*1000*1000"), -3);
        due.is("as it wants", Due.orders(x, "tempt 1 to 9"), -3);
        due.is("the greatest want", Due.orders(x, "tempt 0 to 9"), 1);
        due.is("one that is open", Due.orders(x, "coax 7"), -3);
    }

    private static void times() {
        due.sentence("II", "TIMES: a NUMBER 1 .. 20");
        orders("pass times 0", 11);
        orders("pass times 1", -1);
        orders("pass times 20", -1);
        orders("pass times 21", 11);
        orders("pass times 1000", 11);
        orders("pass times 1001", 11);
        orders("pass times 020", -1);
        orders("pass times done", 11);
        orders("pass times [2]", 11);
        orders("pass times 1+1", 12);
        orders("pass times -1", 11);
        due.is("1", Due.orders(Due.council(1, 9), "pass times 1"), 1);
        due.is("20", Due.orders(Due.council(1, 9), "pass times 20"), 20);
        due.sentence("II", "each as often as TIMES tell (once without)");
        due.is("once", Due.orders(Due.council(1, 9), "pass"), 1);
        HedgeCouncil x = Due.council(1, 9);
        due.is("the most", Due.orders(x, "pass times 20" + ";pass times 20".repeat(11)), 240);
        due.is("the most", x.count(12), 240);
        due.is("16 are kept of them", x.count(4), 16);
        due.is("twice can't be", Due.orders(x, "tempt 0 to 1 times 2"), -3);
        due.is("twice can't be", x.of(0, 0), 9);
        due.is("twice can't be", Due.orders(x, "coax 0 times 2"), -3);
        due.is("twice can't be", x.of(0, 3), 0);
    }

    private static void orderWords() {
        due.sentence("II", "Words: \"minute\" | \"done\" | \"latest\" | \"all\" | \"want\" H | \"still\" H | \"is\" H");
        for (String word : new String[] {"minute", "done", "latest", "all", "want 0", "still 0", "is 0"}) orders("pass if " + word + "=0", -1);
        for (String word : new String[] {"who", "shy", "near", "hush", "mood", "starts", "open"}) orders("pass if " + word + "=0", 8);
        due.sentence("II", "(H: a NUMBER 0 .. 7)");
        for (String word : new String[] {"want", "still", "is"}) {
            int at = 9 + word.length();
            orders("pass if " + word + " 0=0", -1);
            orders("pass if " + word + " 7=0", -1);
            orders("pass if " + word + " 007=0", -1);
            orders("pass if " + word + " 8=0", at);
            orders("pass if " + word + " 1001=0", at);
            orders("pass if " + word + " done=0", at);
            orders("pass if " + word + " [0]=0", at);
            orders("pass if " + word + "=0", at - 1);
            orders("pass if " + word + " 0 0=0", at + 2);
        }
        orders("touch minute 0", 13);
        orders("touch all 0", 10);
    }

    private static void ofWhom() {
        due.sentence("II", "want, still: of a HEDGEHOG, is: whether it is OPEN (1, 0); -1 each without such a HEDGEHOG");
        for (int many = 0; many <= 8; many++) {
            HedgeCouncil x = Due.council(many, 3);
            for (int h = 0; h < many; h += 2) x.coax(h);
            x.pass();
            for (int h = 0; h < 8; h++) {
                boolean there = h < many;
                String test = "want " + h + "=" + (there ? "3" : "0-1") + " and still " + h + "=" + (there ? "1" : "0-1")
                    + " and is " + h + "=" + (there ? String.valueOf((h + 1) % 2) : "0-1");
                due.is("of " + many + ": " + test, Due.orders(x, "pass times 2 if done = 0 and " + test), 1);
                x.undo();
            }
        }
        due.sentence("II", "all: how many are OPEN");
        HedgeCouncil x = Due.council(8, 9);
        for (int open = 0; open <= 8; open++) {
            if (open > 0) x.coax(open - 1);
            due.is("all", Due.orders(x, "touch 0 times 2 if done = 0 and all = " + open), 1);
            x.undo();
        }
        due.sentence("II", "minute");
        x.terms(0, 999);
        due.is("999", Due.orders(x, "touch 0 if minute = 999"), 1);
    }

    private static void eachTime() {
        due.sentence("II", "each time its \"if\" is asked (not run, if it is not so or BROKEN), then its SUMS from the left");
        due.is("until it is not so", Due.orders(Due.council(1, 9), "pass times 20 if minute < 3"), 3);
        due.is("from when it is so", Due.orders(Due.council(1, 9), "touch 0 times 20 if done > 0;pass;touch 0 times 20 if done < 4"), 4);
        due.is("not so: none", Due.orders(Due.council(1, 9), "pass times 20 if 1=2"), 0);
        due.is("broken: none", Due.orders(Due.council(1, 9), "pass times 20 if 1/0=1"), 0);
        due.is("broken until it is not", Due.orders(Due.council(1, 9), "pass;touch 0 times 5 if 4/[done-1] = 4;pass;touch 0 times 5 if 4/[done-1] > 1"), 4);
        due.is("not so: its sums are not asked", Due.orders(Due.council(1, 9), "touch 1/0 if 1=2;tempt 1/0 to 1/0 if 1/0=1;touch 9 if 1=2"), 0);
        due.is("so: its sums are asked", Due.orders(Due.council(1, 9), "touch 1/0 if 1=1"), -3);
        due.is("the first sum is broken", Due.orders(Due.council(1, 9), "tempt 1/0 to 1"), -3);
        due.is("the second sum is broken", Due.orders(Due.council(1, 9), "tempt 0 to 1/0"), -3);
        HedgeCouncil x = Due.council(3, 9);
        due.is("its sums each time", Due.orders(x, "coax done times 3"), 3);
        due.is("its sums each time", x.later(0), 7);
    }

    private static void doneAndLatest() {
        due.sentence("II", "done: how many were run in this TEXT, latest: what the latest pass in it told (-1: none)");
        HedgeCouncil x = Due.line(3);
        x.coax(0);
        x.pass();
        due.is("0 and -1 at first", Due.orders(x, "touch 2 if done = 0 and latest = 0-1"), 1);
        due.is("0 and -1 in each text", Due.orders(x, "touch 2 if done = 0 and latest = 0-1"), 1);
        due.is("those not run aside", Due.orders(x, "touch 2 if 1=2;touch 2 if done = 0;touch 2 if done = 1"), 2);
        due.is("each time counts", Due.orders(x, "touch 2 times 3;touch 2 if done = 3"), 4);
        due.is("latest", Due.orders(x, "pass;touch 2 if latest = 3;touch 0 if latest = 3;pass;touch 2 if latest = 2"), 5);
        due.is("0 is not none", Due.orders(Due.council(1, 9), "pass;touch 0 if latest = 0"), 2);
        due.is("the most done", Due.orders(Due.council(1, 9), "pass times 20" + ";pass times 20".repeat(10) + ";touch 0 times 20 if done < 221"), 221);
    }

    private static void whollyOrNotAtAll() {
        due.sentence("II", "One that can't be .. ends it: all is as it was ahead of it");
        String[] last = {"touch 3", "touch 0-1", "coax 3", "coax 0", "tempt 3 to 1", "tempt 0 to 10", "tempt 1 to 6", "touch 1/0",
            "tempt 0 to 1/0", "coax 0 times 2", "pass times 20", "touch 1000*1000*1000"};
        for (String order : last) {
            HedgeCouncil x = Due.line(3);
            x.terms(0, 985);
            x.tempt(2, 7);
            x.pass();
            int[] was = {x.of(0, 3), x.of(1, 0), x.of(2, 4), x.count(12), x.count(4), x.count(1)};
            due.is(order, Due.orders(x, "pass;coax 0;touch 2;tempt 1 to 6;pass;" + order), -3);
            int[] is = {x.of(0, 3), x.of(1, 0), x.of(2, 4), x.count(12), x.count(4), x.count(1)};
            for (int i = 0; i < was.length; i++) due.is(order + ": as it was", is[i], was[i]);
            due.is(order + ": which clause", x.stopped(), 5);
            due.is(order + ": what can be undone", x.undo(), 3);
            due.is(order + ": what can be undone", x.undo(), 2);
            due.is(order + ": what can be undone", x.undo(), -3);
        }
        HedgeCouncil y = Due.council(1, 9);
        for (int i = 0; i < 16; i++) y.pass();
        due.is("more than are kept", Due.orders(y, "touch 0 times 20;touch 1"), -3);
        due.is("16 are kept", y.count(4), 16);
        for (int i = 15; i >= 0; i--) {
            due.is("each can be undone", y.undo(), 3);
            due.is("each can be undone", y.of(0, 4), i);
        }
    }
}
