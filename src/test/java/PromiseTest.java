/** Each promise of the document by answers that were worked out by hand. */
public final class PromiseTest {
    private static final Check CHECK = new Check();
    private static final int NONE = VerdictFirst.NONE;
    private static final int FAR = Integer.MAX_VALUE;
    private static final int LOW = Integer.MIN_VALUE;

    private PromiseTest() {
    }

    public static void main(String[] args) {
        newObject();
        witness();
        verdict();
        hour();
        strike();
        feed();
        end();
        text();
        fault();
        by();
        says();
        fees();
        reckoning();
        hear();
        rise();
        shown();
        known();
        follows();
        appeal();
        chain();
        weakest();
        defeats();
        least();
        never();
        together();
        amend();
        day();
        best();
        tell();
        kinds();
        draws();
        image();
        about();
        example();
        CHECK.end();
    }

    private static void due(String call, long got, long want) {
        CHECK.due(call, got, want);
    }

    private static void due(String call, boolean got, boolean want) {
        CHECK.due(call, got, want);
    }

    private static void newObject() {
        CHECK.about("promise 1");
        VerdictFirst x = new VerdictFirst();
        int[] want = {0, 0, 0, 0, -1, 0, 0, 0, 0, -2, -2};
        for (int i = 0; i < want.length; i++) {
            due("about(" + i + ")", x.about(i), want[i]);
        }
        due("back()", x.back(), 0);
        due("fault(0)", x.fault(0), NONE);
        due("fault(1)", x.fault(1), NONE);
        due("never()", x.never(), 0);
        due("rise()", x.rise(), 0);
        due("shown(0, 0)", x.shown(0, 0), 0);
        due("shown(1, 0)", x.shown(1, 0), NONE);
        due("known(0, 15)", x.known(0, 15), 0);
        due("draws(0, 1, 0)", x.draws(0, 1, 0), NONE);
        due("NONE", VerdictFirst.NONE, -1);
        VerdictFirst other = Courts.theft();
        due("back()", other.back(), 0);
        due("about(1)", other.about(1), 0);
        due("about(3)", other.about(3), 0);
        due("about(4)", other.about(4), NONE);
    }

    private static void witness() {
        CHECK.about("promise 2");
        VerdictFirst x = new VerdictFirst();
        int[][] wrong = {{-1, 0, 1, 0}, {65536, 0, 1, 0}, {0, -1, 1, 0}, {0, 4, 1, 0}, {0, 0, 0, 0}, {0, 0, 10, 0},
            {0, 0, 1, -1}, {0, 0, 1, 100}, {FAR, 0, 1, 0}, {0, FAR, 1, 0}, {0, 0, FAR, 0}, {0, 0, 1, FAR},
            {LOW, LOW, LOW, LOW}};
        for (int[] row : wrong) {
            due("a wrong witness", x.witness(row[0], row[1], row[2], row[3]), NONE);
        }
        due("about(0)", x.about(0), 0);
        due("the least", x.witness(0, 0, 1, 0), 0);
        due("the greatest", x.witness(65535, 3, 9, 99), 1);
        due("says", x.of(1, 0), 65535);
        due("fee", x.of(1, 1), 99);
        due("struck", x.of(1, 2), 0);
        for (int i = 2; i < 10; i++) {
            due("witness", x.witness(i, 0, 1, 0), i);
        }
        due("the 11th", x.witness(0, 0, 1, 0), NONE);
        due("about(0)", x.about(0), 10);
        due("says", x.of(9, 0), 9);
    }

    private static void verdict() {
        CHECK.about("promise 3");
        VerdictFirst x = new VerdictFirst();
        int[][] wrong = {{-1, 1, 0}, {16, 1, 0}, {0, 0, 0}, {0, 10, 0}, {0, 1, -1}, {0, 1, 100}, {FAR, 1, 0},
            {0, FAR, 0}, {0, 1, FAR}, {LOW, LOW, LOW}};
        for (int[] row : wrong) {
            due("a wrong verdict", x.verdict(row[0], row[1], row[2]), NONE);
        }
        due("the least", x.verdict(0, 1, 0), 0);
        due("the greatest", x.verdict(15, 9, 99), 1);
        for (int i = 2; i < 6; i++) {
            due("verdict", x.verdict(i, i, i), i);
        }
        due("the 7th", x.verdict(0, 1, 0), NONE);
        due("about(1)", x.about(1), 6);
        x.witness(1 << 15, 0, 9, 7);
        x.witness(1, 0, 8, 5);
        due("follows(1, 1)", x.follows(1, 1), 1);
        due("follows(2, 1)", x.follows(2, 1), 0);
        due("follows(2, 0)", x.follows(2, 0), 1);
    }

    private static void hour() {
        CHECK.about("promise 4");
        VerdictFirst x = Check.ruledBy("fee hour;hides hour=23;");
        x.witness(5, 0, 1, 50);
        due("fee at 0", x.of(0, 1), 0);
        due("hour(23)", x.hour(23), true);
        due("about(2)", x.about(2), 23);
        due("fee at 23", x.of(0, 1), 23);
        due("says at 23", x.of(0, 0), 0);
        due("hour(24)", x.hour(24), false);
        due("hour(-1)", x.hour(-1), false);
        due("hour(far)", x.hour(FAR), false);
        due("about(2)", x.about(2), 23);
        due("hour(0)", x.hour(0), true);
        due("says at 0", x.of(0, 0), 5);
    }

    private static void strike() {
        CHECK.about("promise 5");
        VerdictFirst x = Courts.theft();
        due("strike(4)", x.strike(4, true), false);
        due("strike(-1)", x.strike(-1, true), false);
        due("strike(32)", x.strike(32, true), false);
        due("strike(0)", x.strike(0, true), true);
        due("of(0, 2)", x.of(0, 2), 1);
        due("of(1, 2)", x.of(1, 2), 0);
        due("he still says", x.of(0, 0), 1);
        due("shown(3, 0)", x.shown(3, 0), 0);
        due("struck again", x.strike(0, true), true);
        due("not struck", x.strike(0, false), true);
        due("of(0, 2)", x.of(0, 2), 0);
        due("shown(3, 0)", x.shown(3, 0), 6);
        x.hear(0);
        due("heard, then struck", x.strike(0, true), true);
        due("of(0, 3)", x.of(0, 3), 1);
        due("about(5)", x.about(5), 1);
        due("known(1, 0)", x.known(1, 0), 0);
    }

    private static void feed() {
        CHECK.about("promise 6");
        VerdictFirst x = new VerdictFirst();
        due("feed", x.feed(0x66656520, 0x2d2d3100, 0, 0, 0x80ffffff), 20);
        for (int i = 2; i <= 15; i++) {
            due("feed", x.feed(0, 0, 0, 0, 0), 20 * i);
        }
        due("the 16th", x.feed(1, 2, 3, 4, 5), NONE);
        due("about(7)", x.about(7), 300);
        due("end(281)", x.end(281), 281);
        due("feed above 300", x.feed(0, 0, 0, 0, 0), NONE);
        due("about(7)", x.about(7), 281);
        due("end(280)", x.end(280), 280);
        due("feed up to 300", x.feed(0, 0, 0, 0, 0), 300);
        // The highest byte of a comes first, that of e is the 17th.
        due("text()", x.text(), NONE);
        due("fault(1)", x.fault(1), 7);
        x.feed(0x20202020, 0x20202020, 0x20202020, 0x20202020, 0x20202021);
        due("text()", x.text(), NONE);
        due("fault(1)", x.fault(1), 19);
        x.feed(0x66656520, 0x33373b20, 0x20202020, 0x20202020, 0x20202020);
        due("text()", x.text(), 0);
        x.by(0);
        x.witness(0, 0, 1, 0);
        due("of(0, 1)", x.of(0, 1), 37);
    }

    private static void end() {
        CHECK.about("promise 7");
        VerdictFirst x = new VerdictFirst();
        due("end(0)", x.end(0), 0);
        due("end(1)", x.end(1), NONE);
        x.feed(0x66656520, 0x33373b21, 0, 0, 0);
        due("end(21)", x.end(21), NONE);
        due("end(-1)", x.end(-1), NONE);
        due("end(far)", x.end(FAR), NONE);
        due("end(low)", x.end(LOW), NONE);
        due("about(7)", x.about(7), 20);
        due("end(20)", x.end(20), 20);
        due("end(7)", x.end(7), 7);
        due("end(8)", x.end(8), NONE);
        due("about(7)", x.about(7), 7);
        due("text()", x.text(), 0);
    }

    private static void text() {
        CHECK.about("promise 8");
        VerdictFirst x = new VerdictFirst();
        due("an empty tape", x.text(), 0);
        Check.feed(x, "fee 9;");
        due("text()", x.text(), 1);
        due("about(7)", x.about(7), 0);
        Check.feed(x, "fee nine;");
        due("with a fault", x.text(), NONE);
        due("the tape is empty then", x.about(7), 0);
        due("about(3)", x.about(3), 2);
        due("text 2", Check.read(x, "rule 0 worth 1 bend 1;"), 2);
        due("text 3", Check.read(x, "rule 1 worth 1 bend 1;rule 1 worth 1 bend 1;"), 3);
        due("the fifth", Check.read(x, "fee 8;"), NONE);
        due("the tape stays", x.about(7), 6);
        due("fault(0)", x.fault(0), 0);
        due("a fifth with a fault", Check.read(x, "fee nine;"), NONE);
        due("the tape stays", x.about(7), 9);
        due("it wasn't read", x.fault(0), 0);
        due("by(3)", x.by(3), true);
        due("about(8)", x.about(8), 2);
        due("by(1)", x.by(1), true);
        x.witness(0, 0, 1, 1);
        due("of(0, 1)", x.of(0, 1), 9);
        VerdictFirst full = new VerdictFirst();
        full.witness(0, 0, 1, 1);
        for (int i = 0; i < 4; i++) {
            due("300 bytes of no value", Check.read(full, "fee " + "1+".repeat(148)), NONE);
            due("300 bytes", Check.read(full, "fee " + "1+".repeat(147) + i + ";"), i);
            full.by(i);
            due("of(0, 1)", full.of(0, 1), 147 + i);
        }
    }

    private static void fault() {
        CHECK.about("promise 9");
        VerdictFirst x = new VerdictFirst();
        due("ahead of any", x.fault(0), NONE);
        due("ahead of any", x.fault(1), NONE);
        Check.read(x, "fee 1;fee 2;");
        due("fault(0)", x.fault(0), 4);
        due("fault(1)", x.fault(1), 6);
        due("fault(2)", x.fault(2), NONE);
        due("fault(-1)", x.fault(-1), NONE);
        Check.feed(x, "!");
        due("not read yet", x.fault(0), 4);
        Check.read(x, "fee 1;");
        due("fault(0)", x.fault(0), 0);
        due("fault(1)", x.fault(1), NONE);
        Check.read(x, "fee ");
        due("fault(0)", x.fault(0), 1);
        due("fault(1)", x.fault(1), 4);
    }

    private static void by() {
        CHECK.about("promise 10");
        VerdictFirst x = new VerdictFirst();
        x.witness(0, 0, 1, 42);
        due("by(0)", x.by(0), false);
        due("by(NONE)", x.by(NONE), true);
        Check.read(x, "fee 1;");
        due("none rules yet", x.of(0, 1), 42);
        Check.read(x, "fee 2;");
        due("by(1)", x.by(1), true);
        due("about(4)", x.about(4), 1);
        due("of(0, 1)", x.of(0, 1), 2);
        due("by(2)", x.by(2), false);
        due("by(-2)", x.by(-2), false);
        due("by(far)", x.by(FAR), false);
        due("about(4)", x.about(4), 1);
        due("by(0)", x.by(0), true);
        due("of(0, 1)", x.of(0, 1), 1);
        due("by(NONE)", x.by(NONE), true);
        due("of(0, 1)", x.of(0, 1), 42);
        due("about(4)", x.about(4), NONE);
    }

    private static void says() {
        CHECK.about("promise 11, says");
        VerdictFirst x = Check.ruledBy("hides fact=0 or kind=1 and fact<3;adds fact=who+4 and strength>=5;");
        x.witness(15, 0, 5, 0);
        x.witness(15, 1, 4, 0);
        x.witness(0, 1, 9, 0);
        x.witness(1 << 7 | 1, 3, 9, 0);
        due("of(0, 0)", x.of(0, 0), 14 + 16);
        due("of(1, 0)", x.of(1, 0), 8);
        due("of(2, 0)", x.of(2, 0), 64);
        due("known, so not added, not hidden", x.of(3, 0), 128);
        due("of(4, 0)", x.of(4, 0), NONE);
        due("of(-1, 0)", x.of(-1, 0), NONE);
        due("of(0, 4)", x.of(0, 4), NONE);
        due("of(0, -1)", x.of(0, -1), NONE);
        due("of(0, 3)", x.of(0, 3), 0);
        x.hear(0);
        due("of(0, 3)", x.of(0, 3), 1);
        due("of(1, 3)", x.of(1, 3), 0);
        VerdictFirst lies = Check.ruledBy("hides 1=1;adds 1=1;");
        lies.witness(0xff00, 0, 1, 0);
        due("the contrary", lies.of(0, 0), 0x00ff);
        VerdictFirst not = Check.ruledBy("hides not fact<14;adds not not fact=1 and not fact#1 or fact>14;");
        not.witness(0xf000, 0, 1, 0);
        due("not", not.of(0, 0), 0x3002);
    }

    private static void fees() {
        CHECK.about("promise 11, fees");
        int[] want = {0, 9999, 9999, 0, 9999, 0, 50, 7};
        String[] fee = {"0-1", "9999+1", "9999", "-9999", "5000*2", "5/0", "price", "strength"};
        for (int i = 0; i < fee.length; i++) {
            due(fee[i], Check.fee(fee[i]), want[i]);
        }
        VerdictFirst x = Check.ruledBy("fee who*1000+kind*100+strength*10+many+hour;");
        x.witness(0, 0, 1, 9);
        x.witness(0, 3, 2, 9);
        due("of(1, 1)", x.of(1, 1), 1320);
        x.hear(0);
        x.hour(4);
        due("of(1, 1)", x.of(1, 1), 1325);
        x.by(NONE);
        due("without", x.of(1, 1), 9);
    }

    private static void reckoning() {
        CHECK.about("reckoning");
        String[] sum = {"10-3-2", "2+3*4", "(2+3)*4", "100/7/2", "100/(7/2)", "7*5/2", "7/2*5", "10--3", "100-7/2",
            "100+-7/2", "-7/2+100", "9999*9999/1000", "9999*9999-9999*100", "0-9999*9999+9999*100+109",
            "9999*9999*9999/1000/100", "(0-9999)*9999/1000+1007", "5/(3-3)+4", "-(2-5)", "-2*-3", "0/5+1", "1-1/2", "--5", "9999*100+9999*100-999*1000",
            "-(9999*200)+9999*100+105"};
        int[] want = {5, 14, 20, 7, 33, 17, 15, 13, 97, 97, 97, 1000, 100, 9, 10, 7, 4, 3, 6, 1, 1, 5, 1000, 5};
        for (int i = 0; i < sum.length; i++) {
            due(sum[i], Check.fee(sum[i]), want[i]);
        }
        String[] ask = {"fact<2", "fact<=2", "fact>13", "fact>=13", "fact=7", "fact#7", "fact=1 or fact=2 and fact=3",
            "fact=1 and fact=2 or fact=3", "not fact<14 and not fact=15", "not not not fact#4", "fact-3<-1",
            "1=1 or 1=2 and 1=2", "1=2 and 1=2 or 1=1", "1=2 or 1=2 or fact=9"};
        int[] bits = {3, 7, 0xc000, 0xe000, 128, 0xffff - 128, 2, 8, 1 << 14, 16, 3, 0xffff, 0xffff, 512};
        for (int i = 0; i < ask.length; i++) {
            due(ask[i], Check.added(ask[i]), bits[i]);
        }
    }

    private static void hear() {
        CHECK.about("promise 12");
        VerdictFirst x = Check.ruledBy("fee price+many*10;hides hour>5;");
        x.witness(1, 0, 3, 1);
        x.witness(2, 0, 4, 2);
        x.witness(4, 0, 5, 3);
        due("hear(3)", x.hear(3), NONE);
        due("hear(-1)", x.hear(-1), NONE);
        due("hear(1)", x.hear(1), 2);
        due("hear(1) again", x.hear(1), NONE);
        x.strike(2, true);
        due("struck", x.hear(2), NONE);
        x.strike(2, false);
        x.hour(6);
        due("hear(2)", x.hear(2), 13);
        x.hour(0);
        due("what he said stays", x.about(21), 0);
        due("his fee stays", x.about(31), 13);
        due("hear(0)", x.hear(0), 21);
        due("about(12)", x.about(12), 0);
        x.strike(1, true);
        due("heard and struck", x.hear(1), NONE);
        due("about(5)", x.about(5), 3);
    }

    private static void rise() {
        CHECK.about("promise 13");
        VerdictFirst x = Courts.theft();
        due("nobody", x.rise(), 0);
        x.hear(3);
        x.hear(0);
        x.strike(3, true);
        x.by(NONE);
        due("rise()", x.rise(), 23);
        due("about(5)", x.about(5), 0);
        due("about(10)", x.about(10), -2);
        due("rise()", x.rise(), 0);
        due("of(0, 3)", x.of(0, 3), 0);
        due("heard again", x.hear(0), 3);
    }

    private static void shown() {
        CHECK.about("promise 14");
        VerdictFirst x = Courts.theft();
        int[][] want = {{0, 0, 0}, {0, 5, 2}, {3, 0, 6}, {3, 1, 4}, {3, 3, 4}, {3, 4, 4}, {3, 5, 0}, {7, 3, 0},
            {7, 4, 0}, {7, 5, 2}, {8, 3, 3}, {8, 4, 3}, {15, 3, 3}, {11, 3, 4}, {16, 3, NONE}, {-1, 3, NONE},
            {0, 16, NONE}, {0, -1, NONE}, {FAR, FAR, NONE}, {LOW, 0, NONE}};
        for (int[] row : want) {
            due("shown(" + row[0] + ", " + row[1] + ")", x.shown(row[0], row[1]), row[2]);
        }
        x.strike(1, true);
        due("a struck one in the set", x.shown(3, 3), 0);
        x.by(NONE);
        due("without a text", x.shown(8, 3), 3);
        due("without a text", x.shown(15, 5), 0);
        x.witness(8, 0, 9, 0);
        due("the greatest strength", x.shown(24, 3), 9);
        VerdictFirst rules = Check.ruledBy("rule 9 worth 4 bend 0 by 1;rule 1 worth 6 bend 0;rule 9 worth 3 bend 0;"
                + "rule 10 worth 9 bend 0 by 9,1,0;");
        due("told behind what needs it", rules.shown(0, 9), 4);
        due("the least of by", rules.shown(0, 10), 0);
        rules.witness(1, 0, 2, 0);
        due("the least of by", rules.shown(1, 10), 2);
    }

    private static void known() {
        CHECK.about("promise 15");
        VerdictFirst x = Courts.theft();
        x.hear(1);
        x.hear(0);
        x.hear(2);
        due("known(0, 1)", x.known(0, 1), 0);
        due("known(0, 5)", x.known(0, 5), 2);
        due("known(1, 1)", x.known(1, 1), 4);
        due("known(1, 3)", x.known(1, 3), 0);
        due("known(2, 3)", x.known(2, 3), 4);
        due("known(3, 3)", x.known(3, 3), 0);
        due("known(4, 3)", x.known(4, 3), NONE);
        due("known(-1, 3)", x.known(-1, 3), NONE);
        due("known(1, 16)", x.known(1, 16), NONE);
        due("known(1, -1)", x.known(1, -1), NONE);
        x.strike(2, true);
        due("struck ones aside", x.known(3, 3), 4);
        Check.read(x, "hides 1=1;");
        x.by(1);
        due("as they said", x.known(3, 1), 4);
        due("the rules of now", x.known(3, 3), 0);
        due("now they say nothing", x.shown(15, 1), 0);
    }

    private static void follows() {
        CHECK.about("promise 16");
        VerdictFirst x = Courts.theft();
        int[][] want = {{3, 0, 1}, {1, 0, 0}, {8, 0, 0}, {8, 4, 1}, {0, 1, 1}, {3, 1, 0}, {3, 5, NONE}, {3, -1, NONE},
            {16, 0, NONE}, {-1, 0, NONE}, {FAR, 0, NONE}, {0, LOW, NONE}};
        for (int[] row : want) {
            due("follows(" + row[0] + ", " + row[1] + ")", x.follows(row[0], row[1]), row[2]);
        }
    }

    private static void appeal() {
        CHECK.about("promise 17");
        VerdictFirst x = Courts.theft();
        x.hear(0);
        x.hear(1);
        due("appeal(0, 1)", x.appeal(0, 1), 1);
        due("appeal(1, 0)", x.appeal(1, 0), 0);
        due("appeal(2, 0)", x.appeal(2, 0), 1);
        due("appeal(2, 1)", x.appeal(2, 1), 0);
        due("appeal(3, 0)", x.appeal(3, 0), NONE);
        due("appeal(-1, 0)", x.appeal(-1, 0), NONE);
        due("appeal(2, 5)", x.appeal(2, 5), NONE);
        due("appeal(2, -1)", x.appeal(2, -1), NONE);
        x.strike(0, true);
        due("struck", x.appeal(2, 0), 0);
    }

    private static void chain() {
        CHECK.about("promise 18");
        VerdictFirst x = Courts.theft();
        int[] facts = {0, 1, 3, 4};
        int[] rules = {NONE, NONE, 0, 1};
        due("steps", x.chain(3, 0, NONE, 0), 4);
        due("steps", x.chain(3, 0, NONE, 1), 4);
        for (int i = 0; i < 4; i++) {
            due("fact " + i, x.chain(3, 0, i, 0), facts[i]);
            due("rule " + i, x.chain(3, 0, i, 1), rules[i]);
        }
        int[][] none = {{3, 0, 4, 0}, {3, 0, 4, 1}, {3, 0, -2, 0}, {3, 0, FAR, 0}, {3, 0, 0, 2}, {3, 0, 0, -1},
            {3, 0, NONE, 2}, {3, 0, NONE, -1}, {1, 0, NONE, 0}, {1, 0, 0, 0}, {16, 0, NONE, 0}, {-1, 0, NONE, 0},
            {3, 5, NONE, 0}, {3, -1, NONE, 0}};
        for (int[] row : none) {
            due("none such", x.chain(row[0], row[1], row[2], row[3]), NONE);
        }
        VerdictFirst first = Check.ruledBy("fee 1;rule 2 worth 4 bend 0 by 0;rule 2 worth 6 bend 0 by 1 unless 0;"
                + "rule 2 worth 6 bend 0 by 1;rule 2 worth 5 bend 0 by 0,1;");
        first.witness(1, 0, 5, 0);
        first.witness(2, 0, 5, 0);
        first.witness(4, 0, 5, 0);
        first.verdict(2, 1, 0);
        due("steps", first.chain(3, 0, NONE, 0), 2);
        due("the lowest fact", first.chain(3, 0, 0, 0), 1);
        due("the first that makes it so", first.chain(3, 0, 1, 1), 3);
        due("not barred now", first.chain(2, 0, 1, 1), 2);
        due("by evidence", first.chain(7, 0, NONE, 0), 1);
        due("by evidence", first.chain(7, 0, 0, 1), NONE);
        due("by evidence", first.chain(7, 0, 0, 0), 2);
    }

    private static void weakest() {
        CHECK.about("promise 19");
        VerdictFirst x = Courts.theft();
        due("by evidence", x.weakest(3, 0), 1);
        due("of its own worth", x.weakest(0, 1), 5);
        due("of evidence on its way", x.weakest(8, 4), 3);
        due("does not follow", x.weakest(1, 0), NONE);
        due("weakest(16, 0)", x.weakest(16, 0), NONE);
        due("weakest(3, 5)", x.weakest(3, 5), NONE);
        due("weakest(-1, -1)", x.weakest(-1, -1), NONE);
        VerdictFirst worth = Check.ruledBy("rule 2 worth 3 bend 0 by 0;rule 3 worth 3 bend 0 by 1,2;rule 4 worth 9 bend 0 by 3;");
        worth.witness(1, 0, 5, 0);
        worth.witness(2, 0, 4, 0);
        worth.witness(2, 0, 3, 0);
        worth.verdict(4, 1, 0);
        due("the lowest with that worth", worth.weakest(3, 0), 2);
        due("evidence below it", worth.weakest(5, 0), 1);
    }

    private static void defeats() {
        CHECK.about("promise 20");
        VerdictFirst x = Courts.theft();
        due("defeats(3, 0)", x.defeats(3, 0), 4);
        due("defeats(0, 1)", x.defeats(0, 1), 24);
        due("defeats(8, 2)", x.defeats(8, 2), 0);
        due("does not follow", x.defeats(3, 1), NONE);
        due("defeats(16, 0)", x.defeats(16, 0), NONE);
        due("defeats(3, 5)", x.defeats(3, 5), NONE);
        due("defeats(-1, 0)", x.defeats(-1, 0), NONE);
        due("defeats(3, -1)", x.defeats(3, -1), NONE);
        VerdictFirst two = Check.ruledBy("rule 15 worth 2 bend 0 unless 0,14;rule 14 worth 1 bend 0 by 7;");
        two.verdict(15, 2, 0);
        due("through a rule", two.defeats(0, 0), 1 | 1 << 7 | 1 << 14);
    }

    private static void least() {
        CHECK.about("promise 21");
        VerdictFirst x = Courts.theft();
        int[][] want = {{0, 8, 3, NONE}, {1, 0, 0, NONE}, {2, 8, 3, NONE}, {3, NONE, NONE, NONE}};
        for (int[] row : want) {
            for (int what = 0; what < 3; what++) {
                due("least(" + row[0] + ", " + what + ")", x.least(row[0], what), row[what + 1]);
            }
        }
        due("least(0, 3)", x.least(0, 3), NONE);
        due("least(0, -1)", x.least(0, -1), NONE);
        due("least(5, 0)", x.least(5, 0), NONE);
        due("least(-1, 0)", x.least(-1, 0), NONE);
        x.strike(0, true);
        due("struck", x.least(0, 0), NONE);
        due("another way", x.least(2, 0), 20);
        due("another way", x.least(2, 1), 8);
        String barred = "rule 1 worth 5 bend 7;rule 3 worth 5 bend 4 unless 1;rule 3 worth 5 bend 4 unless 1;";
        VerdictFirst bent = Check.ruledBy(barred);
        bent.verdict(3, 5, 0);
        bent.witness(8, 0, 5, 4);
        due("of like costs", bent.least(0, 0), 4);
        due("the lowest set", bent.least(0, 1), 0);
        due("the lowest rule", bent.least(0, 2), 1);
        bent.witness(8, 0, 5, 3);
        due("cheaper than bending", bent.least(0, 0), 3);
        due("cheaper than bending", bent.least(0, 1), 2);
        due("none bent", bent.least(0, 2), NONE);
        VerdictFirst free = Check.ruledBy("fee many;rule 3 worth 5 bend 0 by 0 unless 0;rule 3 worth 5 bend 0 by 0;");
        free.witness(1, 0, 9, 0);
        free.witness(0, 0, 9, 0);
        free.verdict(3, 5, 0);
        due("none bent ahead of one for nothing", free.least(0, 2), NONE);
        due("fees with nobody heard", free.least(0, 0), 0);
        free.hear(1);
        due("fees with one heard", free.least(0, 0), 1);
        VerdictFirst one = Check.ruledBy("rule 1 worth 1 bend 3;rule 2 worth 1 bend 3 unless 1;rule 3 worth 1 bend 3 by 2 unless 1;");
        one.verdict(3, 1, 0);
        due("one rule is bent, not two", one.least(0, 0), NONE);
        one.witness(4, 0, 1, 50);
        due("a witness and a rule", one.least(0, 0), 53);
        due("a witness and a rule", one.least(0, 2), 2);
        due("nothing of it but 0 .. 2", one.least(0, 3), NONE);
        due("nothing of it but 0 .. 2", one.least(0, -1), NONE);
    }

    private static void never() {
        CHECK.about("promise 22");
        VerdictFirst x = Courts.theft();
        due("never()", x.never(), 8);
        x.strike(0, true);
        due("never()", x.never(), 9);
        x.strike(3, true);
        due("never()", x.never(), 8 + 1 + 4 + 16);
        VerdictFirst bent = Check.ruledBy("rule 1 worth 1 bend 0;rule 2 worth 1 bend 0 unless 1;");
        bent.verdict(2, 1, 0);
        due("nothing is bent", bent.never(), 1);
        due("though it has a least", bent.least(0, 0), 0);
    }

    private static void together() {
        CHECK.about("promise 23");
        VerdictFirst x = Courts.theft();
        due("together(2, 4)", x.together(2, 4), true);
        due("together(4, 2)", x.together(4, 2), true);
        due("together(0, 2)", x.together(0, 2), false);
        due("together(0, 1)", x.together(0, 1), false);
        due("one and the same", x.together(2, 2), false);
        due("together(5, 2)", x.together(5, 2), false);
        due("together(2, 5)", x.together(2, 5), false);
        due("together(-1, 2)", x.together(-1, 2), false);
        x.verdict(10, 1, 0);
        due("by no set at all", x.together(3, 5), false);
        x.strike(3, true);
        due("0 and 2 without the third", x.together(0, 2), true);
    }

    private static void amend() {
        CHECK.about("promise 24");
        VerdictFirst x = Courts.theft();
        due("amend(7, 0)", x.amend(7, 0), 0);
        due("it follows", x.amend(3, 0), NONE);
        due("none", x.amend(0, 0), NONE);
        due("amend(3, 1)", x.amend(3, 1), 2);
        due("amend(16, 0)", x.amend(16, 0), NONE);
        due("amend(-1, 0)", x.amend(-1, 0), NONE);
        due("amend(3, 5)", x.amend(3, 5), NONE);
        due("amend(3, -1)", x.amend(3, -1), NONE);
        VerdictFirst two = Check.ruledBy("hides 1=2;rule 1 worth 1 bend 0;rule 3 worth 1 bend 0 unless 1;"
                + "rule 3 worth 4 bend 9 unless 1;rule 3 worth 9 bend 0 unless 1;");
        two.verdict(3, 4, 0);
        due("the lowest by which it does", two.amend(0, 0), 3);
    }

    private static void day() {
        CHECK.about("promise 25");
        VerdictFirst x = Courts.theft();
        int[][] want = {{0, 2, 0, 8, 1}, {0, 2, 0, 7, 0}, {0, 1, 0, 99, 0}, {0, 2, 1, 99, 0}, {0, 0, 0, 0, 0},
            {1, 0, 0, 0, 1}, {1, 6, 2, 999, 1}, {2, 1, 2, 20, 1}, {2, 2, 2, 19, 0}, {0, 7, 0, 0, NONE},
            {0, -1, 0, 0, NONE}, {0, 0, 3, 0, NONE}, {0, 0, -1, 0, NONE}, {0, 0, 0, -1, NONE}, {0, 0, 0, 1000, NONE},
            {5, 0, 0, 0, NONE}, {-1, 0, 0, 0, NONE}, {FAR, FAR, FAR, FAR, NONE}, {LOW, LOW, LOW, LOW, NONE}};
        for (int[] row : want) {
            due("day(" + row[0] + ", " + row[1] + ", " + row[2] + ", " + row[3] + ")",
                    x.day(row[0], row[1], row[2], row[3]), row[4]);
        }
        VerdictFirst two = Check.ruledBy("fee many*10+1;rule 2 worth 9 bend 0 by 0,1;");
        two.witness(1, 0, 1, 0);
        two.witness(2, 0, 1, 0);
        two.witness(2, 0, 1, 0);
        two.verdict(2, 1, 0);
        two.hear(0);
        due("fees by those heard that day", two.day(0, 2, 0, 12), 1);
        due("a purse too small", two.day(0, 2, 0, 11), 0);
        due("one of two is struck", two.day(0, 2, 1, 12), 1);
        due("one strike an hour", two.day(0, 2, 2, 12), 1);
        two.strike(2, true);
        due("the only one is struck", two.day(0, 2, 1, 999), 0);
        due("without strikes", two.day(0, 2, 0, 12), 1);
        VerdictFirst many = new VerdictFirst();
        many.verdict(0, 1, 0);
        for (int i = 0; i < 7; i++) {
            many.witness(1, 0, 1, i + 10);
        }
        due("seven", many.day(0, 1, 0, 99), NONE);
        many.strike(0, true);
        due("six of seven", many.day(0, 1, 2, 11), 1);
        due("six of seven", many.day(0, 6, 2, 10), 0);
        // Three of one fact and three of the other, burden by both: two strikes are too few to keep them apart.
        VerdictFirst six = Check.ruledBy("rule 2 worth 9 bend 0 by 0,1;");
        for (int i = 0; i < 6; i++) {
            six.witness(1 + i % 2, 0, 1, 0);
        }
        six.verdict(2, 1, 0);
        due("day(0, 2, 2, 0)", six.day(0, 2, 2, 0), 1);
        due("day(0, 1, 2, 0)", six.day(0, 1, 2, 0), 0);
    }

    private static void best() {
        CHECK.about("promise 26");
        VerdictFirst x = Courts.theft();
        int[][] want = {{0, 2, 0, 8, 0}, {0, 2, 0, 7, NONE}, {1, 1, 0, 0, 10}, {1, 0, 0, 0, NONE}, {2, 1, 2, 20, 3},
            {1, 1, 0, 99, 0}, {0, 7, 0, 8, NONE}, {0, 2, 3, 8, NONE}, {0, 2, -1, 8, NONE}, {0, 2, 0, 1000, NONE},
            {0, 2, 0, -1, NONE}, {5, 2, 0, 8, NONE}, {-1, 2, 0, 8, NONE}, {0, 3, 0, 8, 0}};
        for (int[] row : want) {
            due("best(" + row[0] + ", " + row[1] + ", " + row[2] + ", " + row[3] + ")",
                    x.best(row[0], row[1], row[2], row[3]), row[4]);
        }
        VerdictFirst only = Check.ruledBy("rule 2 worth 9 bend 0 by 0,1;");
        only.witness(1, 0, 1, 5);
        only.witness(0, 0, 1, 0);
        only.witness(2, 0, 1, 0);
        only.witness(1, 0, 1, 5);
        only.verdict(2, 1, 0);
        due("the one who must not be struck first", only.best(0, 2, 1, 5), 2);
        due("anyone, none being struck", only.best(0, 2, 0, 5), 0);
        due("with an hour to spare", only.best(0, 3, 0, 5), 0);
        only.strike(0, true);
        due("numbers of witnesses, not of seats", only.best(0, 2, 0, 5), 2);
        VerdictFirst harm = Check.ruledBy("rule 1 worth 1 bend 0 unless 0;");
        harm.witness(1, 0, 1, 0);
        harm.verdict(1, 1, 0);
        due("none, since he harms", harm.best(0, 1, 0, 99), 10);
        harm.witness(0, 0, 1, 0);
        due("one who doesn't", harm.best(0, 1, 0, 99), 1);
        for (int i = 0; i < 5; i++) {
            harm.witness(0, 0, 1, 0);
        }
        due("seven", harm.best(0, 1, 0, 99), NONE);
    }

    private static void tell() {
        CHECK.about("promise 27");
        VerdictFirst x = new VerdictFirst();
        due("nobody", x.tell(0, 0, true), NONE);
        x.witness(1, 0, 1, 0);
        due("tell(1, 0)", x.tell(1, 0, true), NONE);
        due("tell(-1, 0)", x.tell(-1, 0, true), NONE);
        due("tell(0, 16)", x.tell(0, 16, true), NONE);
        due("tell(0, -1)", x.tell(0, -1, false), NONE);
        for (int i = 1; i <= 20; i++) {
            due("tell", x.tell(0, i % 16, i % 16 == 0), i);
        }
        due("the 21st", x.tell(0, 0, true), NONE);
        due("about(6)", x.about(6), 20);
        due("all are so", x.kinds(0), 15);
    }

    private static void kinds() {
        CHECK.about("promise 28");
        VerdictFirst x = Check.ruledBy("hides kind=1 and hour<12;adds kind=2 and fact=3;");
        x.witness(1, 0, 1, 0);
        x.witness(1, 2, 1, 0);
        due("kinds(2)", x.kinds(2), NONE);
        due("kinds(-1)", x.kinds(-1), NONE);
        due("none told", x.kinds(0), 15);
        x.tell(0, 0, true);
        due("not the one who hides", x.kinds(0), 13);
        due("of the other", x.kinds(1), 15);
        x.tell(0, 3, false);
        due("nor the one who adds", x.kinds(0), 9);
        x.hour(12);
        due("now", x.kinds(0), 11);
        x.hour(0);
        x.tell(1, 3, true);
        due("kinds(1)", x.kinds(1), 4);
        x.strike(1, true);
        due("struck", x.kinds(1), 4);
        x.tell(0, 3, true);
        due("against one another", x.kinds(0), 0);
    }

    private static void draws() {
        CHECK.about("promise 29");
        VerdictFirst x = Courts.theft();
        due("draws(0, 3, 0)", x.draws(0, 3, 0), 3);
        due("draws(0, 3, 1)", x.draws(0, 3, 1), 24);
        int[][] wrong = {{-1, 1, 0}, {10000, 1, 0}, {0, 0, 0}, {0, 31, 0}, {0, 1, 2}, {0, 1, -1}, {LOW, LOW, LOW}};
        for (int[] row : wrong) {
            due("draws", x.draws(row[0], row[1], row[2]), NONE);
        }
        int x1 = 9999 * 17 + 9;
        int many = 0;
        for (int i = 0; i < 30; i++) {
            many += x1 % 16 < 15 ? 1 : 0;
            x1 = (x1 * 199 + 47) % 30113;
        }
        due("draws(9999, 30, 0)", x.draws(9999, 30, 0), many);
        due("draws(9999, 30, 1)", x.draws(9999, 30, 1), many * 8);
        VerdictFirst none = new VerdictFirst();
        due("no verdicts", none.draws(0, 1, 0), NONE);
        none.verdict(0, 1, 0);
        due("no chances", none.draws(0, 1, 0), NONE);
        none.verdict(0, 1, 1);
        due("no least", none.draws(0, 9, 0), 0);
        due("no least", none.draws(0, 9, 1), 0);
        none.witness(1, 0, 1, 7);
        due("all have one", none.draws(0, 9, 1), 63);
    }

    private static void image() {
        CHECK.about("promises 30 and 31");
        VerdictFirst x = Courts.theft();
        x.hear(0);
        x.hear(1);
        x.strike(2, true);
        x.hour(7);
        x.tell(0, 0, false);
        due("image()", x.image(), 4);
        x.witness(0, 0, 1, 0);
        x.verdict(0, 1, 1);
        x.strike(2, false);
        x.strike(3, true);
        x.hour(8);
        due("rise()", x.rise(), 8);
        x.hear(2);
        x.tell(1, 1, false);
        due("text 1", Check.read(x, "fee 77;"), 1);
        x.by(1);
        due("with a fault", Check.read(x, "fee 77"), NONE);
        Check.feed(x, "fee 78;");
        due("back()", x.back(), 4);
        int[] want = {4, 5, 7, 1, 0, 2, 1, 7, 3};
        for (int i = 0; i < want.length; i++) {
            due("about(" + i + ")", x.about(i), want[i]);
        }
        due("the latest fault stays", x.fault(0), 1);
        due("the latest fault stays", x.fault(1), 6);
        due("of(2, 2)", x.of(2, 2), 1);
        due("of(3, 2)", x.of(3, 2), 0);
        due("of(0, 3)", x.of(0, 3), 1);
        due("of(2, 3)", x.of(2, 3), 0);
        due("about(10)", x.about(10), 0);
        due("about(31)", x.about(31), 5);
        due("by(1)", x.by(1), false);
        due("kinds(1)", x.kinds(1), 15);
        due("the tape stays", x.text(), 1);
        x.by(1);
        due("of(0, 1)", x.of(0, 1), 78);
        due("the image stays", x.back(), 4);
        due("about(3)", x.about(3), 1);
        due("of(0, 1)", x.of(0, 1), 3);
        due("witness", x.witness(9, 0, 1, 2), 4);
        due("image()", x.image(), 5);
        x.rise();
        due("back()", x.back(), 5);
        due("about(5)", x.about(5), 2);
    }

    private static void about() {
        CHECK.about("promise 32");
        VerdictFirst x = Courts.theft();
        x.hear(3);
        x.hear(1);
        x.hour(5);
        x.tell(0, 0, true);
        x.feed(1, 2, 3, 4, 5);
        int[][] want = {{0, 4}, {1, 5}, {2, 5}, {3, 1}, {4, 0}, {5, 2}, {6, 1}, {7, 20}, {8, 3}, {9, -2}, {10, 3},
            {11, 1}, {12, -2}, {19, -2}, {20, 8}, {21, 2}, {22, -2}, {30, 20}, {31, 5}, {32, -2}, {39, -2}, {40, -2},
            {41, -2}, {110, -2}, {-1, -2}, {-10, -2}, {-20, -2}, {FAR, -2}, {LOW, -2}};
        for (int[] row : want) {
            due("about(" + row[0] + ")", x.about(row[0]), row[1]);
        }
        x.by(NONE);
        due("about(4)", x.about(4), NONE);
        due("about(8)", x.about(8), 0);
    }

    private static void example() {
        CHECK.about("README.md");
        VerdictFirst court = new VerdictFirst();
        due("anna", court.witness(0b0001, 0, 6, 3), 0);
        due("otto", court.witness(0b0010, 1, 4, 5), 1);
        due("guilty", court.verdict(3, 4, 10), 0);
        court.feed(0x72756c65, 0x20332077, 0x6f727468, 0x20352062, 0x656e6420);
        court.feed(0x34206279, 0x20302c31, 0x20756e6c, 0x65737320, 0x323b0000);
        due("end", court.end(38), 38);
        due("by", court.by(court.text()), true);
        due("follows", court.follows(0b11, 0), 1);
        due("least", court.least(0, 0), 8);
        due("best", court.best(0, 2, 0, 8), 0);
    }
}
