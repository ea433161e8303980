/** The edges of part II: tokens, clauses, rules, faults and reckoning. */
public final class EdgeReadingTest {
    private static final Edge EDGE = new Edge();
    private static final String RULE = "rule0worth1bend1;";

    private EdgeReadingTest() {
    }

    public static void main(String[] args) {
        blanks();
        words();
        digits();
        numbersRange();
        numbersThatWrapAround();
        signs();
        theLongest();
        noClause();
        sixteenClauses();
        seventeenthClause();
        eachOnce();
        byAndUnlessOnce();
        listsOfNumbers();
        factOfARule();
        worthOfARule();
        bendOfARule();
        factsBelowItsOwn();
        bracketsOpen();
        minusOpen();
        notOpen();
        mixedOpen();
        allOpenAtOnce();
        sideBySide();
        namesOfClauses();
        greatestNames();
        wordsThatAreNoNames();
        firstFault();
        leastFault();
        faultAtTheEnd();
        asksCompare();
        comparisons();
        orAndAnd();
        fromTheLeft();
        cutsTowardsZero();
        divisionByZero();
        aboveAMillion();
        belowAMillionLess();
        millionTimesAMillion();
        millionsCompared();
        rulesByTheirClause();
        EDGE.end();
    }

    private static void fault(String text, int fault, int place) {
        EDGE.fault(text, fault, place);
    }

    private static void fine(String text) {
        EDGE.fine(text);
    }

    private static void fee(String sum, int want) {
        EDGE.about("reckoning");
        EDGE.due(sum, Check.fee(sum), want);
    }

    private static void added(String asked, int want) {
        EDGE.about("reckoning");
        EDGE.due(asked, Check.added(asked), want);
    }

    // "TOKENS, blanks (32, 10) aside"
    private static void blanks() {
        fine(" \n fee \n 1 \n ; \n ");
        fine("\nhides\n1\n<=\n1\n;");
        fine("fee " + " ".repeat(294) + "1;");
        fine("fee\n" + "\n".repeat(294) + "1;");
        for (int none : new int[] {0, 8, 9, 11, 12, 13, 31, 33, 127, 128, 133, 138, 160}) {
            fault("fee" + (char) none + "1;", 1, 3);
            fault((char) none + "fee 1;", 1, 0);
            fault("fee 1;" + (char) none, 1, 6);
        }
    }

    // "letters a .. z, A .. Z one behind the other (one TOKEN)"
    private static void words() {
        for (String letter : new String[] {"a", "z", "A", "Z"}) {
            fault("fee" + letter + " 1;", 1, 0);
            fault(letter + "fee 1;", 1, 0);
            fault("fee who" + letter + ";", 1, 4);
            fault("fee 1;" + letter, 1, 6);
        }
        for (String none : new String[] {"@", "[", "`", "{", "_"}) {
            fault("fee" + none + "1;", 1, 3);
            fault("fee who" + none + "1;", 1, 7);
        }
        fault("fe e 1;", 1, 0);
        fault("fee wh\no;", 1, 4);
        fault("FEE 1;", 1, 0);
        fault("fee WHO;", 1, 4);
        fault("fee whO;", 1, 4);
        fine("fee1;hides1=1and1=1or1=1;");
        fault("fee who1;", 1, 7);
        fault("fee 1who;", 1, 5);
        fault("x".repeat(300), 1, 0);
        fault(" ".repeat(298) + "fe", 1, 298);
        fault(" ".repeat(292) + "fee stre", 1, 296);
    }

    // "digits likewise"
    private static void digits() {
        for (int digit = 0; digit <= 9; digit++) {
            fee("" + digit, digit);
            fee("1" + digit, 10 + digit);
        }
        fee("8/2", 4);
        fault("fee 8:2;", 1, 5);
        fault("fee :;", 1, 4);
        fault("fee 1 0;", 1, 6);
        fault("fee 1\n0;", 1, 6);
    }

    // "NUMBERS, 0 .. 9999", "2 a NUMBER that isn't one of those told (above 9999 ..)"
    private static void numbersRange() {
        fee("0", 0);
        fee("9998", 9998);
        fee("9999", 9999);
        fault("fee 10000;", 2, 4);
        fault("fee 10001;", 2, 4);
        fault("fee 99999;", 2, 4);
        fault("hides 9999=10000;", 2, 11);
        fault("adds 10000=1;", 2, 5);
        fault("fee 1+(10000);", 2, 7);
        fault("fee -10000;", 2, 5);
        fee("0000", 0);
        fee("00009999", 9999);
        fault("fee 00010000;", 2, 4);
        fee("0".repeat(290) + "17", 17);
    }

    private static void numbersThatWrapAround() {
        String[] wrapping = {"65536", "65541", "2147483647", "2147483648", "4294967296", "4294967301",
            "9223372036854775808", "18446744073709551616", "18446744073709551621"};
        for (String number : wrapping) {
            fault("fee " + number + ";", 2, 4);
            fault("rule " + number + " worth 1 bend 1;", 2, 5);
        }
        fault("fee " + "9".repeat(295) + ";", 2, 4);
    }

    // "<= >= < > = # + - * / ( ) , ;"
    private static void signs() {
        fine("hides 1<1 or 1<=1 or 1>1 or 1>=1 or 1=1 or 1#1;");
        fine("fee (1+2-3)*4/5;rule 2 worth 1 bend 0 by 0,1;");
        for (char none : "!\"$%&'.:?@[\\]^_`{|}~".toCharArray()) {
            fault("fee 1" + none + "1;", 1, 5);
            fault("hides 1" + none + "1;", 1, 7);
        }
    }

    // "(the longest)"
    private static void theLongest() {
        added("fact<=3", 0b1111);
        added("fact>=13", 0b111 << 13);
        fault("hides 1< =1;", 1, 9);
        fault("hides 1> =1;", 1, 9);
        fault("hides 1<\n=1;", 1, 9);
        fault("hides 1=<1;", 1, 8);
        fault("hides 1=>1;", 1, 8);
        fault("hides 1<==1;", 1, 9);
        fault("hides 1<<=1;", 1, 8);
        fault("hides 1<>1;", 1, 8);
        fault("hides 1##1;", 1, 8);
        fault(" ".repeat(292) + "hides 1<", 1, 300);
        fault(" ".repeat(291) + "hides 1>=", 1, 300);
    }

    // "{CLAUSE}, 16 at most": none is a text too.
    private static void noClause() {
        fault(";".repeat(300), 1, 0);
        fine("");
        fine(" ");
        fine("\n".repeat(300));
        fault(";", 1, 0);
        fault("fee 1;;", 1, 6);
    }

    private static void sixteenClauses() {
        fine(RULE.repeat(15));
        fine(RULE.repeat(16));
        fine(RULE.repeat(16) + "   ");
        fine("fee 1;hides 1=1;adds 1=1;" + RULE.repeat(13));
        fine(RULE.repeat(15) + "fee 1;");
        fine(RULE.repeat(13) + "fee 1;hides 1=1;adds 1=1;");
        VerdictFirst x = Check.ruledBy(RULE.repeat(16));
        EDGE.due("all are rules", x.about(8), 16);
        VerdictFirst last = Check.ruledBy(RULE.repeat(15) + "fee 37;");
        last.witness(0, 0, 1, 0);
        EDGE.due("the last is heeded", last.of(0, 1), 37);
    }

    // "6 the 17th CLAUSE (at its first TOKEN)"
    private static void seventeenthClause() {
        String sixteen = RULE.repeat(16);
        fault(sixteen + RULE, 6, 272);
        fault(sixteen + "rule", 6, 272);
        fault(sixteen + "fee 1;", 6, 272);
        fault(sixteen + "hides 1=1;", 6, 272);
        fault(sixteen + "adds 1=1;", 6, 272);
        fault(sixteen + " \n rule !", 6, 275);
        fault("fee 1;" + RULE.repeat(15) + "hides", 6, 261);
        fault("adds 1=1;fee 1;" + RULE.repeat(14) + "hides", 6, 253);
        fault("adds 1=1;fee 1;hides 1=1;" + RULE.repeat(13) + "rule", 6, 246);
    }

    // "(each once)", "4 fee, hides, adds for the second time (at it)"
    private static void eachOnce() {
        fault("fee 1;fee 2;", 4, 6);
        fault("hides 1=1;hides 1=1;", 4, 10);
        fault("adds 1=1;adds 1=1;", 4, 9);
        fault("fee 1;hides 1=1;adds 1=1;rule 0 worth 1 bend 1;fee", 4, 47);
        fault("fee 1;hides 1=1;adds 1=1;rule 0 worth 1 bend 1;hides", 4, 47);
        fault("fee 1;hides 1=1;adds 1=1;rule 0 worth 1 bend 1;adds", 4, 47);
        fine("adds 1=1;hides 1=1;fee 1;");
        fine(RULE + RULE);
    }

    // "(each of by and unless once at most, by ahead ..)"
    private static void byAndUnlessOnce() {
        String rule = "rule 3 worth 1 bend 1";
        fine(rule + ";");
        fine(rule + " by 1;");
        fine(rule + " unless 1;");
        fine(rule + " by 1 unless 1;");
        fault(rule + " by 1 by 2;", 1, 27);
        fault(rule + " unless 1 unless 2;", 1, 31);
        fault(rule + " unless 1 by 2;", 1, 31);
        fault(rule + " by 1 unless 2 by 2;", 1, 36);
        fault(rule + " by 1 unless 2 unless 2;", 1, 36);
    }

    // "NUMBERS: NUMBER {, NUMBER}"
    private static void listsOfNumbers() {
        String rule = "rule 3 worth 1 bend 1";
        fault(rule + " by;", 1, 24);
        fault(rule + " unless;", 1, 28);
        fault(rule + " by unless 1;", 1, 25);
        fault(rule + " by ,1;", 1, 25);
        fault(rule + " by 1,;", 1, 27);
        fault(rule + " by 1,,2;", 1, 27);
        fault(rule + " by 1 2;", 1, 27);
        fault(rule + " unless 1,unless 2;", 1, 31);
        fine(rule + " by 0,1,2 unless 0,1,2;");
        fine(rule + " by  2" + ",2".repeat(136) + ";");
        fault(rule + " by  2" + ",2".repeat(136) + ",", 1, 300);
    }

    // "RULE: of a FACT 0 .. 15"
    private static void factOfARule() {
        fine("rule 0 worth 1 bend 1;");
        fine("rule 15 worth 1 bend 1;");
        fault("rule 16 worth 1 bend 1;", 2, 5);
        fault("rule -1 worth 1 bend 1;", 1, 5);
        fault("rule 32 worth 1 bend 1;", 2, 5);
        fault("rule 9999 worth 1 bend 1;", 2, 5);
        fault("rule 10000 worth 1 bend 1;", 2, 5);
        VerdictFirst x = Check.ruledBy("rule 0 worth 1 bend 1;rule 15 worth 2 bend 1;");
        for (int fact = 0; fact < 16; fact++) {
            EDGE.due("shown(0, " + fact + ")", x.shown(0, fact), fact == 0 ? 1 : fact == 15 ? 2 : 0);
        }
    }

    // "WORTH 1 .. 9"
    private static void worthOfARule() {
        fault("rule 1 worth 0 bend 1;", 2, 13);
        fine("rule 1 worth 1 bend 1;");
        fine("rule 1 worth 9 bend 1;");
        fault("rule 1 worth 10 bend 1;", 2, 13);
        fault("rule 1 worth 9999 bend 1;", 2, 13);
        fault("rule 1 worth -1 bend 1;", 1, 13);
        for (int worth = 1; worth <= 9; worth++) {
            EDGE.due("worth", Check.ruledBy("rule 1 worth " + worth + " bend 1;").shown(0, 1), worth);
        }
    }

    // "BEND 0 .. 99"
    private static void bendOfARule() {
        fine("rule 1 worth 1 bend 0;");
        fine("rule 1 worth 1 bend 99;");
        fault("rule 1 worth 1 bend 100;", 2, 20);
        fault("rule 1 worth 1 bend 9999;", 2, 20);
        fault("rule 1 worth 1 bend -1;", 1, 20);
        for (int bend : new int[] {0, 1, 98, 99}) {
            VerdictFirst x = Check.ruledBy("rule 0 worth 1 bend 5;rule 1 worth 1 bend " + bend + " unless 0;");
            x.verdict(1, 1, 0);
            EDGE.due("what bending costs", x.least(0, 0), bend);
            EDGE.due("the rule that is bent", x.least(0, 2), 1);
        }
    }

    // "by and unless tell FACTS below its own"
    private static void factsBelowItsOwn() {
        fine("rule 1 worth 1 bend 1 by 0;");
        fine("rule 1 worth 1 bend 1 unless 0;");
        fine("rule 15 worth 1 bend 1 by 0,14 unless 14,0;");
        fault("rule 0 worth 1 bend 1 by 0;", 2, 25);
        fault("rule 0 worth 1 bend 1 unless 0;", 2, 29);
        fault("rule 0 worth 1 bend 1 unless 1;", 2, 29);
        fault("rule 15 worth 1 bend 1 by 15;", 2, 26);
        fault("rule 15 worth 1 bend 1 unless 15;", 2, 30);
        fault("rule 15 worth 1 bend 1 by 16;", 2, 26);
        fault("rule 3 worth 1 bend 1 by 0,3;", 2, 27);
        fault("rule 3 worth 1 bend 1 by 3,0;", 2, 25);
        fault("rule 3 worth 1 bend 1 by 2 unless 1,3;", 2, 36);
        fault("rule 3 worth 1 bend 1 by 4;", 2, 25);
        fault("rule 3 worth 1 bend 1 by -1;", 1, 25);
        fault("rule 3 worth 1 bend 1 by 10000;", 2, 25);
    }

    // "3 the 9th of ( not and - (of one ONE) that are open around one another (at it)"
    private static void bracketsOpen() {
        fine("fee " + "(".repeat(7) + "1" + ")".repeat(7) + ";");
        fine("fee " + "(".repeat(8) + "1" + ")".repeat(8) + ";");
        fault("fee " + "(".repeat(9) + "1" + ")".repeat(9) + ";", 3, 12);
        fault("fee " + "(".repeat(10) + "1" + ")".repeat(10) + ";", 3, 12);
        fault("fee " + "(".repeat(296), 3, 12);
        fault("hides 1=" + "( ".repeat(9), 3, 24);
        fee("1+" + "(1+".repeat(8) + "1*2" + ")".repeat(8) + "*3", 31);
    }

    private static void minusOpen() {
        fee("-".repeat(8) + "1", 1);
        fault("fee " + "-".repeat(9) + "1;", 3, 12);
        fee("1" + "-".repeat(9) + "1", 0);
        fault("fee 1" + "-".repeat(10) + "1;", 3, 14);
        fault("fee " + "-".repeat(296), 3, 12);
    }

    private static void notOpen() {
        added("not ".repeat(7) + "fact=3", 0xffff - 8);
        added("not ".repeat(8) + "fact=3", 8);
        fault("adds " + "not ".repeat(9) + "fact=3;", 3, 37);
        fault("adds " + "not ".repeat(73), 3, 37);
        fault("hides 1=1 and " + "not ".repeat(9) + "1=1;", 3, 46);
        fault("hides 1=1 or " + "not ".repeat(9) + "1=1;", 3, 45);
    }

    private static void mixedOpen() {
        fine("fee -(-(-(-(1))));");
        fault("fee -(-(-(-(-1))));", 3, 12);
        fault("fee -(-(-(-((1)))));", 3, 12);
        fine("fee -(-(-(-(1-1))));");
        fine("adds not not not not not not not (1)=1;");
        fine("adds not not not not not not not 1=(1);");
        fine("adds not not not not not not not -1=-1;");
        fault("adds not not not not not not not not (1)=1;", 3, 37);
        fault("adds not not not not not not not not 1=(1);", 3, 39);
        fault("adds not not not not not not not not -1=1;", 3, 37);
        fault("adds not not not not not not not not 1=-1;", 3, 39);
        fine("adds not not not not ((((1))))=((((1))));");
        fault("adds not not not not (((((1)))))=1;", 3, 25);
        fault("adds not not not not 1=((((-1))));", 3, 27);
    }

    // Two sides of or, and, =, + and * wait at once, the last two at each of eight brackets.
    private static void allOpenAtOnce() {
        String sum = "1+1*(".repeat(8) + "1+1*1" + ")".repeat(8);
        fee(sum, 10);
        added("1=2 or 1=1 and 10=" + sum, 0xffff);
        added("1=2 or 1=1 and 9=" + sum, 0);
        added("1=2 or 1=1 and " + sum + "=10", 0xffff);
        added("not 1=2 and not not not not not not not not 10=1+1*1+1*8", 0xffff);
    }

    private static void sideBySide() {
        fine("fee " + "(1)+".repeat(20) + "(1);");
        fine("fee " + "-1*".repeat(20) + "-1;");
        fine("fee " + "-1-".repeat(20) + "-1;");
        fine("fee ((((((((1))))))))+((((((((1))))))));");
        fine("fee --------1*(1)+--------1;");
        fine("fee ((((((((1-1-1-1-1-1-1-1-1-1))))))));");
        fine("hides " + "not 1=1 and ".repeat(12) + "not 1=1;");
        fine("hides " + "not 1=1 or ".repeat(12) + "not 1=1;");
        fine("hides not not not not not not not not 1=1 and ((((((((1))))))))=1;");
        fault("fee (((((((1)))))))+(((((((((1", 3, 28);
    }

    // "NAMES: who, kind, strength, hour; of fee besides: price, many; of hides and adds besides: fact", "5 a NAME .."
    private static void namesOfClauses() {
        for (String name : new String[] {"who", "kind", "strength", "hour"}) {
            fine("fee " + name + ";hides " + name + "=1;adds 1=" + name + ";");
        }
        for (String name : new String[] {"price", "many"}) {
            fine("fee " + name + ";");
            fault("hides " + name + "=1;", 5, 6);
            fault("hides 1=" + name + ";", 5, 8);
            fault("adds " + name + "=1;", 5, 5);
            fault("adds 1=1 or not 1+(" + name + ")=1;", 5, 19);
            fault("fee " + name + ";adds " + name + "=1;", 5, 10 + name.length());
        }
        fine("hides fact=1;adds fact=1;fee 1;");
        fault("fee fact;", 5, 4);
        fault("fee 1+-(fact);", 5, 8);
        fault("hides fact=1;adds fact=1;fee fact;", 5, 29);
    }

    private static void greatestNames() {
        EDGE.about("the ranges of names");
        String[] names = {"who", "kind", "strength", "hour", "price", "many"};
        int[] least = {0, 0, 1, 0, 0, 0};
        int[] greatest = {9, 3, 9, 23, 99, 10};
        for (int i = 0; i < names.length; i++) {
            VerdictFirst x = Check.ruledBy("fee " + names[i] + ";adds fact>=15 or fact<=0;hides fact>=15 or fact<=0;");
            for (int j = 0; j < 9; j++) {
                x.witness(65535, 0, 1, 0);
            }
            x.witness(0, 3, 9, 99);
            EDGE.due(names[i] + ", the least", x.of(0, 1), least[i]);
            for (int j = 0; j < 10; j++) {
                x.hear(j);
            }
            x.hour(23);
            EDGE.due(names[i] + ", the greatest", x.of(9, 1), greatest[i]);
            EDGE.due("fact, both ends hidden", x.of(0, 0), 0x7ffe);
            EDGE.due("fact, both ends added", x.of(9, 0), 0x8001);
        }
    }

    // "1 it can't stand there": a word that is no NAME is none of ONE's forms.
    private static void wordsThatAreNoNames() {
        for (String word : new String[] {"foo", "fee", "hides", "adds", "rule", "worth", "bend", "by", "unless", "or",
            "and", "not", "prices", "facts", "man"}) {
            fault("fee " + word + ";", 1, 4);
            fault("hides 1=" + word + ";", 1, 8);
        }
        for (String word : new String[] {"who", "fact", "price", "worth", "by", "or", "not", "foo"}) {
            fault(word + " 1;", 1, 0);
        }
    }

    // "FAULTS, the first as TOKENS are come to, at the TOKEN's first byte"
    private static void firstFault() {
        fault("fee 10000 fact !", 2, 4);
        fault("fee fact 10000 !", 5, 4);
        fault("fee 1 ! fee 10000", 1, 6);
        fault("fee 1; fee 10000", 4, 7);
        fault("fee   10000;", 2, 6);
        fault("fee 1+\n\nfact;", 5, 8);
        fault("rule 16 worth 0 bend 100;", 2, 5);
        fault("rule 15 worth 0 bend 100;", 2, 14);
    }

    // "of one the least"
    private static void leastFault() {
        fault("fee 1 10000;", 1, 6);
        fault("rule 1 10000 worth 1 bend 1;", 1, 7);
        fault("fee ((((((((1(;", 1, 13);
        fault("hides not not not not not not not not 1 not 1=1;", 1, 40);
        fault("hides ((((((((not 1=1;", 1, 14);
        fault("fee 1 fee 2;", 1, 6);
        fault("fee fee;", 1, 4);
        fault("fee 1 fact;", 1, 6);
        fault("hides 1=1 price;", 1, 10);
        fault("rule fact worth 1 bend 1;", 1, 5);
        fault(RULE.repeat(16) + "worth", 1, 272);
        fault(RULE.repeat(16) + "!", 1, 272);
        fault(RULE.repeat(16) + ";", 1, 272);
        fault("fee 1;" + RULE.repeat(15) + "fee 1;", 4, 261);
        fault("hides 1=1;" + RULE.repeat(15) + "hides", 4, 265);
        fault("adds 1=1;" + RULE.repeat(15) + "adds", 4, 264);
    }

    // "(of the end at the length)"
    private static void faultAtTheEnd() {
        String[] parts = {"rule", " 3", " worth", " 1", " bend", " 1", " by", " 1", ",", "2", " unless", " 0"};
        StringBuilder text = new StringBuilder();
        for (String part : parts) {
            text.append(part);
            fault(text.toString(), 1, text.length());
            fault(text + " \n", 1, text.length() + 2);
        }
        fine(text + ";");
        for (String open : new String[] {"fee", "fee 1", "fee 1+", "fee 1*", "fee (", "fee (1", "fee -", "fee who",
            "hides", "hides not", "hides 1", "hides 1<", "hides 1=1", "adds 1=1 and", "adds 1=1 or"}) {
            fault(open, 1, open.length());
            fault(open + "  ", 1, open.length() + 2);
        }
        fault("fee 1" + " ".repeat(295), 1, 300);
    }

    // "ASK: not ASK, or SUM one of < <= > >= = # (unlike) SUM": neither a sum alone nor an ask in brackets.
    private static void asksCompare() {
        fault("hides 1;", 1, 7);
        fault("hides not 1;", 1, 11);
        fault("hides 1 or 1=1;", 1, 8);
        fault("adds 1=1 and 1;", 1, 14);
        fault("adds who and 1=1;", 1, 9);
        fault("adds 1=1=1;", 1, 8);
        fault("adds 1<2<3;", 1, 8);
        fault("adds (1=1);", 1, 7);
        fault("adds 1=;", 1, 7);
        fault("adds =1;", 1, 5);
        fault("fee 1=1;", 1, 5);
        fault("fee not 1;", 1, 4);
    }

    // "SUM one of < <= > >= = # (unlike) SUM"
    private static void comparisons() {
        added("fact<0", 0);
        added("fact<1", 1);
        added("fact<=0", 1);
        added("fact<15", 0x7fff);
        added("fact<=15", 0xffff);
        added("fact>15", 0);
        added("fact>14", 0x8000);
        added("fact>=15", 0x8000);
        added("fact>0", 0xfffe);
        added("fact>=0", 0xffff);
        added("fact=0", 1);
        added("fact=15", 0x8000);
        added("fact#0", 0xfffe);
        added("fact#15", 0x7fff);
        added("fact-8<-7", 1);
        added("fact-8<=-7", 3);
    }

    // "EITHER: BOTH {or BOTH}. BOTH: ASK {and ASK}. ASK: not ASK, .."
    private static void orAndAnd() {
        added("fact=1 or fact=2 and fact=3", 2);
        added("fact=1 and fact=2 or fact=3", 8);
        added("not fact=1 and fact<3", 0b101);
        added("not fact=1 or fact=1", 0xffff);
        added("fact=0 or fact=1 or fact=15", 0x8003);
        added("fact>3 and fact<9 and fact#6", 0b110110000);
        added("1=2 or 1=1", 0xffff);
        added("1=1 or 1=2", 0xffff);
        added("1=2 or 1=2", 0);
        added("1=1 and 1=2", 0);
        added("1=2 and 1=1", 0);
        added("1=1 and 1=1", 0xffff);
        String[] so = {"1<2", "1<=1", "2>1", "1>=1", "1=1", "1#2", "not 1=2"};
        String[] notSo = {"1<1", "2<=1", "1>1", "1>=2", "1=2", "1#1", "not 1=1"};
        for (int i = 0; i < so.length; i++) {
            for (int j = 0; j < so.length; j++) {
                added(so[i] + " and " + so[j], 0xffff);
                added(so[i] + " and " + notSo[j], 0);
                added(notSo[i] + " or " + so[j], 0xffff);
                added(notSo[i] + " or " + notSo[j], 0);
            }
        }
    }

    // "From the left"
    private static void fromTheLeft() {
        fee("100-10-1", 89);
        fee("100/10/5", 2);
        fee("100/10*5", 50);
        fee("7*3/2", 10);
        fee("7/2*3", 9);
        fee("2+3*4", 14);
        fee("20-6/4", 19);
    }

    // "/ cuts towards 0"
    private static void cutsTowardsZero() {
        fee("7/2", 3);
        fee("1/2", 0);
        fee("9999/9999", 1);
        fee("9998/9999", 0);
        fee("-7/2+10", 7);
        fee("7/-2+10", 7);
        fee("-7/-2+10", 13);
        fee("-1/2+10", 10);
        fee("(0-7)/2+10", 7);
    }

    // "by 0 it is 0"
    private static void divisionByZero() {
        fee("5/0+1", 1);
        fee("0/0+1", 1);
        fee("-5/0+1", 1);
        fee("5/who+1", 1);
        fee("5/(3-3)*7+1", 1);
        fee("7/0/0+2", 2);
        added("fact/0=0", 0xffff);
        added("fact/fact=1", 0xfffe);
    }

    // "what is above 1000000 .. is that, at each step": 9999*100 is 999900, and 101*9901 is 1000001.
    private static void aboveAMillion() {
        fee("9999*100+99-9999*100", 99);
        fee("9999*100+100-9999*100", 100);
        fee("9999*100+101-9999*100", 100);
        fee("999*1001-9999*100", 99);
        fee("1000*1000-9999*100", 100);
        fee("101*9901-9999*100", 100);
        fee("9999*100--101-9999*100", 100);
        fee("9999*100--100-9999*100", 100);
        fee("9999*100--99-9999*100", 99);
        fee("9999*9999/9999", 100);
        fee("9999*100+9999-9999*100", 100);
        fee("(9999*100+9999)/1000", 1000);
        fee("101*9901/1*1-9999*100", 100);
    }

    // "(below the same less)"
    private static void belowAMillionLess() {
        fee("0-9999*100-99+9999*100+200", 101);
        fee("0-9999*100-100+9999*100+200", 100);
        fee("0-9999*100-101+9999*100+200", 100);
        fee("-999*1001+9999*100+200", 101);
        fee("-1000*1000+9999*100+200", 100);
        fee("-101*9901+9999*100+200", 100);
        fee("101*-9901+9999*100+200", 100);
        fee("0-9999*100+-101+9999*100+200", 100);
        fee("-(101*9901)+9999*100+200", 100);
        fee("-9999*9999+9999*100+200", 100);
    }

    private static void millionTimesAMillion() {
        fee("1000*1000*(1000*1000)-9999*100", 100);
        fee("-(1000*1000)*(1000*1000)+9999*100+200", 100);
        fee("-(1000*1000)*-(1000*1000)-9999*100", 100);
        fee("9999*9999*9999*9999*9999-9999*100", 100);
        fee("1000*1000+1000*1000-9999*100", 100);
        fee("-(1000*1000)-1000*1000+9999*100+200", 100);
        fee("1000*1000/(1000*1000)", 1);
    }

    private static void millionsCompared() {
        added("1000*1000=101*9901", 0xffff);
        added("1000*1000<101*9901", 0);
        added("999*1001<1000*1000", 0xffff);
        added("-1000*1000=-101*9901", 0xffff);
        added("9999*100+fact*10<9999*100+100", 0x3ff);
        added("9999*100+fact*10=1000*1000", 0xfc00);
    }

    // "RULES are numbered by their CLAUSE among all of THE TEXT"
    private static void rulesByTheirClause() {
        EDGE.about("the numbers of rules");
        for (int ahead = 0; ahead < 16; ahead++) {
            VerdictFirst x = Check.ruledBy(RULE.repeat(ahead) + "rule5worth2bend1;" + RULE.repeat(15 - ahead));
            x.verdict(5, 2, 0);
            EDGE.due("the rule", x.chain(0, 0, 0, 1), ahead);
        }
        VerdictFirst x = Check.ruledBy("fee 1;hides 1=2;" + "adds 1=2;" + RULE.repeat(12) + "rule5worth2bend1;");
        x.verdict(5, 2, 0);
        EDGE.due("the 16th", x.chain(0, 0, 0, 1), 15);
        EDGE.due("rules alone are counted", x.about(8), 13);
    }
}
