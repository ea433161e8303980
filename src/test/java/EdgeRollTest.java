/** The edges of promises 1 to 5: a new object, witnesses, verdicts, the hour and strikes. */
public final class EdgeRollTest {
    private static final Edge EDGE = new Edge();
    private static final int NONE = Edge.NONE;

    private EdgeRollTest() {
    }

    public static void main(String[] args) {
        nothingIsThere();
        nothingCanBeAsked();
        theImageIsThis();
        witnessRanges();
        leastWitness();
        greatestWitness();
        tenWitnesses();
        verdictRanges();
        leastVerdict();
        greatestVerdict();
        chances();
        sixVerdicts();
        hours();
        hourAtFirst();
        strikes();
        notStruckAtFirst();
        struckTwice();
        EDGE.end();
    }

    // "Nobody, no VERDICTS": no text, no tape, none heard and nothing told either.
    private static void nothingIsThere() {
        EDGE.about("promise 1, nothing is there");
        VerdictFirst x = new VerdictFirst();
        int[] want = {0, 0, 0, 0, NONE, 0, 0, 0, 0};
        for (int what = 0; what < want.length; what++) {
            EDGE.due("about(" + what + ")", x.about(what), want[what]);
        }
        for (int what = want.length; what < 41; what++) {
            EDGE.due("about(" + what + ")", x.about(what), -2);
        }
        EDGE.due("NONE", VerdictFirst.NONE, -1);
    }

    private static void nothingCanBeAsked() {
        EDGE.about("promise 1, nothing can be asked");
        VerdictFirst x = new VerdictFirst();
        EDGE.due("strike(0, true)", x.strike(0, true), false);
        EDGE.due("end(1)", x.end(1), NONE);
        EDGE.due("fault(0)", x.fault(0), NONE);
        EDGE.due("fault(1)", x.fault(1), NONE);
        EDGE.due("by(0)", x.by(0), false);
        EDGE.due("of(0, 0)", x.of(0, 0), NONE);
        EDGE.due("hear(0)", x.hear(0), NONE);
        EDGE.due("rise()", x.rise(), 0);
        for (int fact = 0; fact < 16; fact++) {
            EDGE.due("shown(0, " + fact + ")", x.shown(0, fact), 0);
            EDGE.due("known(0, " + fact + ")", x.known(0, fact), 0);
        }
        EDGE.due("shown(1, 0)", x.shown(1, 0), NONE);
        EDGE.due("known(1, 0)", x.known(1, 0), NONE);
        EDGE.due("follows(0, 0)", x.follows(0, 0), NONE);
        EDGE.due("appeal(0, 0)", x.appeal(0, 0), NONE);
        EDGE.due("chain(0, 0, NONE, 0)", x.chain(0, 0, NONE, 0), NONE);
        EDGE.due("weakest(0, 0)", x.weakest(0, 0), NONE);
        EDGE.due("defeats(0, 0)", x.defeats(0, 0), NONE);
        EDGE.due("least(0, 0)", x.least(0, 0), NONE);
        EDGE.due("never()", x.never(), 0);
        EDGE.due("together(0, 1)", x.together(0, 1), false);
        EDGE.due("amend(0, 0)", x.amend(0, 0), NONE);
        EDGE.due("day(0, 0, 0, 0)", x.day(0, 0, 0, 0), NONE);
        EDGE.due("best(0, 1, 0, 0)", x.best(0, 1, 0, 0), NONE);
        EDGE.due("tell(0, 0, true)", x.tell(0, 0, true), NONE);
        EDGE.due("kinds(0)", x.kinds(0), NONE);
        EDGE.due("draws(0, 1, 0)", x.draws(0, 1, 0), NONE);
        EDGE.due("image()", x.image(), 0);
        EDGE.due("back()", x.back(), 0);
    }

    private static void theImageIsThis() {
        EDGE.about("promise 1, the image is this");
        VerdictFirst untouched = new VerdictFirst();
        EDGE.due("back()", untouched.back(), 0);
        EDGE.due("a new one as before", Edge.picture(untouched).equals(Edge.picture(new VerdictFirst())), true);
        VerdictFirst used = Courts.row(10);
        used.hour(7);
        used.strike(4, true);
        used.hear(0);
        used.tell(0, 0, true);
        EDGE.due("back()", used.back(), 0);
        EDGE.due("as new", Edge.picture(used).equals(Edge.picture(new VerdictFirst())), true);
        VerdictFirst ruled = Courts.theft();
        EDGE.due("back()", ruled.back(), 0);
        EDGE.due("texts", ruled.about(3), 0);
        EDGE.due("the text", ruled.about(4), NONE);
        EDGE.due("by(0)", ruled.by(0), false);
    }

    // "NONE for others (KNOWS 0 .. 65535)": KIND 0 .. 3, STRENGTH 1 .. 9, PRICE 0 .. 99.
    private static void witnessRanges() {
        EDGE.about("promise 2");
        EDGE.range("KNOWS", 0, 65535, Courts::busy, (x, v) -> x.witness(v, 1, 5, 50), NONE);
        EDGE.range("KIND", 0, 3, Courts::busy, (x, v) -> x.witness(4, v, 5, 50), NONE);
        EDGE.range("STRENGTH", 1, 9, Courts::busy, (x, v) -> x.witness(4, 1, v, 50), NONE);
        EDGE.range("PRICE", 0, 99, Courts::busy, (x, v) -> x.witness(4, 1, 5, v), NONE);
        EDGE.range("KNOWS of the first", 0, 65535, VerdictFirst::new, (x, v) -> x.witness(v, 1, 5, 50), NONE);
        EDGE.range("KIND of the first", 0, 3, VerdictFirst::new, (x, v) -> x.witness(4, v, 5, 50), NONE);
        EDGE.range("STRENGTH of the first", 1, 9, VerdictFirst::new, (x, v) -> x.witness(4, 1, v, 50), NONE);
        EDGE.range("PRICE of the first", 0, 99, VerdictFirst::new, (x, v) -> x.witness(4, 1, 5, v), NONE);
    }

    private static void leastWitness() {
        EDGE.about("promise 2, the least of each");
        VerdictFirst x = new VerdictFirst();
        EDGE.due("his number", x.witness(0, 0, 1, 0), 0);
        EDGE.due("he says", x.of(0, 0), 0);
        EDGE.due("his fee", x.of(0, 1), 0);
        Check.read(x, "fee kind*10+strength;adds fact=2;");
        x.by(0);
        EDGE.due("his kind and strength", x.of(0, 1), 1);
        EDGE.due("so strongly he shows", x.shown(1, 2), 1);
    }

    private static void greatestWitness() {
        EDGE.about("promise 2, the greatest of each");
        VerdictFirst x = new VerdictFirst();
        EDGE.due("his number", x.witness(65535, 3, 9, 99), 0);
        EDGE.due("he says", x.of(0, 0), 65535);
        EDGE.due("his fee", x.of(0, 1), 99);
        EDGE.due("so strongly he shows 0", x.shown(1, 0), 9);
        EDGE.due("so strongly he shows 15", x.shown(1, 15), 9);
        Check.read(x, "fee kind*10+strength;");
        x.by(0);
        EDGE.due("his kind and strength", x.of(0, 1), 39);
    }

    // "or if there are 10"
    private static void tenWitnesses() {
        EDGE.about("promise 2, ten");
        VerdictFirst x = new VerdictFirst();
        for (int i = 0; i < 10; i++) {
            EDGE.due("his number", x.witness(1 << i, 0, 1, i), i);
            EDGE.due("so many", x.about(0), i + 1);
        }
        for (int i = 0; i < 10; i++) {
            EDGE.due("he says", x.of(i, 0), 1 << i);
            EDGE.due("his fee", x.of(i, 1), i);
        }
        EDGE.refused(Courts::full, "the 11th", y -> y.witness(1, 0, 1, 0), NONE);
        EDGE.refused(Courts::full, "the 11th, wrong too", y -> y.witness(-1, 4, 10, 100), NONE);
    }

    // "NONE for others": FACTS 0 .. 15, BURDEN 1 .. 9, CHANCE 0 .. 99.
    private static void verdictRanges() {
        EDGE.about("promise 3");
        EDGE.range("FACT", 0, 15, Courts::busy, (x, v) -> x.verdict(v, 5, 50), NONE);
        EDGE.range("BURDEN", 1, 9, Courts::busy, (x, v) -> x.verdict(4, v, 50), NONE);
        EDGE.range("CHANCE", 0, 99, Courts::busy, (x, v) -> x.verdict(4, 5, v), NONE);
        EDGE.range("FACT of the first", 0, 15, VerdictFirst::new, (x, v) -> x.verdict(v, 5, 50), NONE);
        EDGE.range("BURDEN of the first", 1, 9, VerdictFirst::new, (x, v) -> x.verdict(4, v, 50), NONE);
        EDGE.range("CHANCE of the first", 0, 99, VerdictFirst::new, (x, v) -> x.verdict(4, 5, v), NONE);
    }

    private static void leastVerdict() {
        EDGE.about("promise 3, the least of each");
        VerdictFirst x = new VerdictFirst();
        EDGE.due("its number", x.verdict(0, 1, 0), 0);
        x.witness(1, 0, 1, 0);
        x.witness(2, 0, 9, 0);
        EDGE.due("by its fact", x.follows(1, 0), 1);
        EDGE.due("by another", x.follows(2, 0), 0);
    }

    private static void greatestVerdict() {
        EDGE.about("promise 3, the greatest of each");
        VerdictFirst x = new VerdictFirst();
        EDGE.due("its number", x.verdict(15, 9, 99), 0);
        x.witness(1 << 15, 0, 9, 0);
        x.witness(1 << 15, 0, 8, 0);
        x.witness(1 << 14, 0, 9, 0);
        EDGE.due("by its burden", x.follows(1, 0), 1);
        EDGE.due("by less", x.follows(2, 0), 0);
        EDGE.due("by another fact", x.follows(4, 0), 0);
    }

    private static void chances() {
        EDGE.about("promise 3, chances");
        // Of 100 lots those of the verdict with 99 are 0 .. 98, the other has the last one.
        VerdictFirst x = new VerdictFirst();
        x.witness(1, 0, 1, 3);
        x.verdict(0, 1, 99);
        x.verdict(1, 1, 1);
        EDGE.due("of 99 in 100", x.draws(0, 30, 0), fewerThan(99, 100));
        VerdictFirst none = new VerdictFirst();
        none.verdict(0, 1, 0);
        EDGE.due("of 0", none.draws(0, 30, 0), NONE);
    }

    private static int fewerThan(int lots, int all) {
        int x = 9;
        int many = 0;
        for (int i = 0; i < 30; i++) {
            many += x % all < lots ? 1 : 0;
            x = (x * 199 + 47) % 30113;
        }
        return many;
    }

    // "or if there are 6"
    private static void sixVerdicts() {
        EDGE.about("promise 3, six");
        VerdictFirst x = new VerdictFirst();
        x.witness(0b10101, 0, 1, 0);
        for (int i = 0; i < 6; i++) {
            EDGE.due("its number", x.verdict(i, 1, 1), i);
            EDGE.due("so many", x.about(1), i + 1);
        }
        for (int i = 0; i < 6; i++) {
            EDGE.due("it follows", x.follows(1, i), i % 2 == 0 && i < 5 ? 1 : 0);
        }
        EDGE.refused(Courts::full, "the 7th", y -> y.verdict(0, 1, 1), NONE);
        EDGE.refused(Courts::full, "the 7th, wrong too", y -> y.verdict(16, 10, 100), NONE);
    }

    // "False for others": HOUR 0 .. 23.
    private static void hours() {
        EDGE.about("promise 4");
        EDGE.range("HOUR", 0, 23, Courts::busy, (x, v) -> Edge.bit(x.hour(v)), 0);
        VerdictFirst x = Check.ruledBy("fee hour;");
        x.witness(0, 0, 1, 50);
        for (int h : new int[] {0, 23, 1, 22}) {
            EDGE.due("hour(" + h + ")", x.hour(h), true);
            EDGE.due("about(2)", x.about(2), h);
            EDGE.due("of(0, 1)", x.of(0, 1), h);
        }
    }

    // "HOUR 0 .. 23 (at first 0)"
    private static void hourAtFirst() {
        EDGE.about("promise 4, at first");
        VerdictFirst x = Check.ruledBy("fee hour+5;");
        x.witness(0, 0, 1, 50);
        EDGE.due("about(2)", x.about(2), 0);
        EDGE.due("of(0, 1)", x.of(0, 1), 5);
    }

    private static void strikes() {
        EDGE.about("promise 5");
        EDGE.range("struck", 0, 3, Courts::busy, (x, v) -> Edge.bit(x.strike(v, true)), 0);
        EDGE.range("not struck", 0, 3, Courts::busy, (x, v) -> Edge.bit(x.strike(v, false)), 0);
        EDGE.range("struck of ten", 0, 9, Courts::full, (x, v) -> Edge.bit(x.strike(v, true)), 0);
        EDGE.noRange("struck of nobody", 0, VerdictFirst::new, (x, v) -> Edge.bit(x.strike(v, true)), 0);
        VerdictFirst x = Courts.row(10);
        x.strike(0, true);
        x.strike(9, true);
        for (int i = 0; i < 10; i++) {
            EDGE.due("of(" + i + ", 2)", x.of(i, 2), i == 0 || i == 9 ? 1 : 0);
        }
    }

    // "STRUCK or not (at first not)"
    private static void notStruckAtFirst() {
        EDGE.about("promise 5, at first");
        VerdictFirst x = Courts.row(10);
        for (int i = 0; i < 10; i++) {
            EDGE.due("of(" + i + ", 2)", x.of(i, 2), 0);
        }
        x.strike(9, true);
        x.back();
        for (int i = 0; i < 10; i++) {
            x.witness(0, 0, 1, 0);
            EDGE.due("a new one behind a struck one of his number", x.of(i, 2), 0);
        }
    }

    private static void struckTwice() {
        EDGE.about("promise 5, as he is already");
        VerdictFirst x = Courts.row(2);
        EDGE.due("not struck, as at first", x.strike(0, false), true);
        EDGE.due("of(0, 2)", x.of(0, 2), 0);
        EDGE.due("struck", x.strike(0, true), true);
        EDGE.due("struck again", x.strike(0, true), true);
        EDGE.due("of(0, 2)", x.of(0, 2), 1);
        EDGE.due("not struck", x.strike(0, false), true);
        EDGE.due("of(0, 2)", x.of(0, 2), 0);
    }
}
