/** Texts with the fault that is due and its place. */
public final class FaultTest {
    private static final Check CHECK = new Check();

    private FaultTest() {
    }

    public static void main(String[] args) {
        whole();
        tokens();
        bytes();
        clauses();
        rules();
        numbers();
        depth();
        names();
        least();
        CHECK.end();
    }

    private static void fault(String text, int fault, int place) {
        CHECK.fault(text, fault, place);
    }

    private static void fine(String text) {
        CHECK.fine(text);
    }

    private static void whole() {
        fine("");
        fine("  \n ");
        fine("fee 1;");
        fine("\nfee\n1\n;\n");
        fine("fee who+kind*strength/hour-price-many;");
        fine("hides who<1 or kind<=1 and strength>1 or hour>=2 and fact=3 or not fact#2;");
        fine("adds who<1;hides 1=1;fee 0;");
        fine("rule 15 worth 9 bend 99 by 0,14,14 unless 13,0;");
        fine("rule0worth1bend0;rule15worth9bend99;");
        fine("rule 1 worth 1 bend 1 unless 0;");
        fine("fee 0009999;");
        fine("fee 2--1;");
        fine("hides 1=-1;");
        fine("rule0worth1bend1;".repeat(16));
        fine("fee 1;hides 1=1;adds 1=1;" + "rule0worth1bend1;".repeat(13));
    }

    private static void tokens() {
        fault("fee 1 ; !", 1, 8);
        fault("fee\t1;", 1, 3);
        fault("fee 1;\0", 1, 6);
        fault("fee " + (char) 233 + ";", 1, 4);
        fault("fee 1" + (char) 160 + ";", 1, 5);
        fault("Fee 1;", 1, 0);
        fault("feeS 1;", 1, 0);
        fault("fe e 1;", 1, 0);
        fault("feez 1;", 1, 0);
        fault("feea 1;", 1, 0);
        fault("feeZ 1;", 1, 0);
        fault("feeA 1;", 1, 0);
        fault("fee[1;", 1, 3);
        fault("fee`1;", 1, 3);
        fault("fee{1;", 1, 3);
        fault("fee@1;", 1, 3);
        fault("fee 1:", 1, 5);
        fault("fee 1?", 1, 5);
        fault(";".repeat(300), 1, 0);
        fault("fee1" + "+1".repeat(148), 1, 300);
        fault("hides 1 < = 2;", 1, 10);
        fault("hides 1 =< 2;", 1, 9);
        fault("hides 1 == 2;", 1, 9);
        fault("hides 1 <> 2;", 1, 9);
        fault("hides 1 ! 2;", 1, 8);
        fault("rule_", 1, 4);
        fine("hides 1<=-2;");
        fault("hides 1<==2;", 1, 9);
    }

    /** Every byte that begins no token is fault 1 wherever it stands. */
    private static void bytes() {
        String free = " \n<>=#+-*/(),;";
        for (int i = 0; i < 256; i++) {
            char sign = (char) i;
            boolean letter = sign >= 'a' && sign <= 'z' || sign >= 'A' && sign <= 'Z';
            boolean digit = sign >= '0' && sign <= '9';
            if (!letter && !digit && free.indexOf(sign) < 0) {
                fault(sign + "1;", 1, 0);
                fault("fee " + sign + ";", 1, 4);
                fault("fee 1" + sign + "1;", 1, 5);
                fault("hides 1" + sign + "2;", 1, 7);
                fault("hides" + sign + "1=2;", 1, 5);
                fault("rule 1 worth 1 bend 1" + sign + "0;", 1, 21);
            }
        }
        String blank = " ".repeat(290);
        fault(blank + "hides 123<", 1, 300);
        fault(blank + "hides 123>", 1, 300);
        fault(blank + "fee 1;hide", 1, 296);
        fault(blank + "fee 123456", 2, 294);
        fine(blank + "fee 12345;".replace('5', ' '));
    }

    private static void clauses() {
        fault("fee", 1, 3);
        fault("fee   ", 1, 6);
        fault("fee ;", 1, 4);
        fault("fee 1", 1, 5);
        fault("fee 1 fee 2;", 1, 6);
        fault(";", 1, 0);
        fault("fee 1;;", 1, 6);
        fault("1;", 1, 0);
        fault("fee 1 = 1;", 1, 6);
        fault("fee 1 and 2;", 1, 6);
        fault("fee not 1;", 1, 4);
        fault("fee 1 2;", 1, 6);
        fault("fee (1;", 1, 6);
        fault("fee 1);", 1, 5);
        fault("fee ();", 1, 5);
        fault("fee 1+;", 1, 6);
        fault("fee +1;", 1, 4);
        fault("fee 1**2;", 1, 6);
        fault("hides 1;", 1, 7);
        fault("hides 1=2=3;", 1, 9);
        fault("hides (1=2);", 1, 8);
        fault("hides not;", 1, 9);
        fault("hides 1=2 or;", 1, 12);
        fault("hides 1=2 and or 1=1;", 1, 14);
        fault("hides or 1=1;", 1, 6);
        fault("hides 1=not 1;", 1, 8);
        fault("hides 1+not 1=1;", 1, 8);
        fault("adds 1=1 not 1=1;", 1, 9);
        fault("adds 1<2 or 1;", 1, 13);
        fault("fee 1;fee 2;", 4, 6);
        fault("hides 1=1;fee 1;hides", 4, 16);
        fault("adds 1=1;adds 1=1;", 4, 9);
        fault("rule0worth1bend1;".repeat(16) + "rule", 6, 272);
        fault("rule0worth1bend1;".repeat(16) + " fee 1;", 6, 273);
        fault("fee 1;" + "rule0worth1bend1;".repeat(15) + "hides", 6, 261);
    }

    private static void rules() {
        fault("rule;", 1, 4);
        fault("rule x worth 1 bend 1;", 1, 5);
        fault("rule (1) worth 1 bend 1;", 1, 5);
        fault("rule -1 worth 1 bend 1;", 1, 5);
        fault("rule 1 bend 1 worth 1;", 1, 7);
        fault("rule 1 worth bend 1;", 1, 13);
        fault("rule 1 worth 1;", 1, 14);
        fault("rule 1 worth 1 bend;", 1, 19);
        fault("rule 1 worth 1 bend 1", 1, 21);
        fault("rule 2 worth 1 bend 1 by;", 1, 24);
        fault("rule 2 worth 1 bend 1 by 1,;", 1, 27);
        fault("rule 2 worth 1 bend 1 by ,1;", 1, 25);
        fault("rule 2 worth 1 bend 1 by 1 0;", 1, 27);
        fault("rule 2 worth 1 bend 1 by 1 by 0;", 1, 27);
        fault("rule 2 worth 1 bend 1 unless 1 unless 0;", 1, 31);
        fault("rule 2 worth 1 bend 1 unless 1 by 0;", 1, 31);
        fault("rule 2 worth 1 bend 1,2;", 1, 21);
        fault("rule who worth 1 bend 1;", 1, 5);
    }

    private static void numbers() {
        fault("fee 10000;", 2, 4);
        fault("fee 99999999999999999999;", 2, 4);
        fault("fee 4294967297;", 2, 4);
        fault("hides 1 = 10000;", 2, 10);
        fault("rule 16 worth 1 bend 1;", 2, 5);
        fault("rule 99999 worth 1 bend 1;", 2, 5);
        fault("rule 1 worth 0 bend 1;", 2, 13);
        fault("rule 1 worth 10 bend 1;", 2, 13);
        fault("rule 1 worth 1 bend 100;", 2, 20);
        fault("rule 0 worth 1 bend 1 by 0;", 2, 25);
        fault("rule 3 worth 1 bend 1 by 2,3;", 2, 27);
        fault("rule 3 worth 1 bend 1 by 2 unless 4;", 2, 34);
        fault("rule 3 worth 1 bend 1 unless 3;", 2, 29);
    }

    private static void depth() {
        fine("fee " + "(".repeat(8) + "1" + ")".repeat(8) + ";");
        fault("fee " + "(".repeat(9) + "1" + ")".repeat(9) + ";", 3, 12);
        fine("fee --------1;");
        fault("fee ---------1;", 3, 12);
        fine("fee -(-(-(-(1))));");
        fault("fee -(-(-(-(-1))));", 3, 12);
        fine("fee -(-(-(-(1-1))));");
        fault("fee 1-(-(-(-(-1)-(-(--1)))));", 3, 20);
        fine("fee --------1+--------1*--------1;");
        fine("fee ((((1))))+((((((((1))))))));");
        fine("hides not not not not not not not not 1=1 and not not 1=1;");
        fault("hides not not not not not not not not not 1=1;", 3, 38);
        fine("hides not not not not (((1)))+(-(-1)) = -(((1)));");
        fault("hides not not not not 1 = ((((-1))));", 3, 30);
        fine("hides not not not not not not not not 1=1 or ((((((((1))))))))=1;");
        fault("hides not not not not not not not not 1=-1;", 3, 40);
    }

    private static void names() {
        fault("fee fact;", 5, 4);
        fault("fee 1+(-fact);", 5, 8);
        fault("hides price=1;", 5, 6);
        fault("hides 1=many;", 5, 8);
        fault("adds fact=price;", 5, 10);
        fault("adds many>0;", 5, 5);
        fault("fee foo;", 1, 4);
        fault("fee Who;", 1, 4);
        fault("fee rule;", 1, 4);
        fault("hides worth=1;", 1, 6);
        fault("fee 1 fact;", 1, 6);
        fine("fee 1;adds fact=1;");
        fault("adds fact=1;fee fact;", 5, 16);
        fault("fee many;hides many=1;", 5, 15);
    }

    private static void least() {
        // Of one token the least fault is told.
        fault("fee 1 10000;", 1, 6);
        fault("rule0worth1bend1;".repeat(16) + "foo", 1, 272);
        fault("fee 1;" + "rule0worth1bend1;".repeat(15) + "fee", 4, 261);
        fault("fee ((((((((fact", 5, 12);
        fault("fee ((((((((+", 1, 12);
        fault("fee fact 10000 !", 5, 4);
    }
}
