/** The edges of promises 11 to 20: what witnesses say and take, who is heard, what is shown and what carries it. */
public final class EdgeEvidenceTest {
    private static final Edge EDGE = new Edge();
    private static final int NONE = Edge.NONE;

    private EdgeEvidenceTest() {
    }

    public static void main(String[] args) {
        ofRange();
        saysWithout();
        saysKnownAndUnknown();
        feeBounds();
        feeWithout();
        feeOfHisOwnKind();
        hearRange();
        hearStruck();
        hearTwice();
        hearTen();
        heardAsThen();
        heardThoughStruck();
        riseOfNobody();
        riseOfTen();
        shownRange();
        shownByStruck();
        shownByTheGreatest();
        shownByTheLeastOfBy();
        shownUnless();
        shownThroughAllFacts();
        knownRange();
        knownByTheFirst();
        knownAsSaid();
        followsRange();
        followsByItsBurden();
        appealRange();
        appealByItsBurden();
        chainRange();
        chainThatDoesNotFollow();
        chainOfOne();
        chainOfSixteen();
        chainByEvidenceAsStrong();
        chainByTheFirstRule();
        weakestRange();
        weakestByEvidenceOrWorth();
        weakestOnTheChainAlone();
        defeatsRange();
        defeatsOfNothing();
        defeatsOfAll();
        defeatsBelowTheBurden();
        EDGE.end();
    }

    // "NONE for others"
    private static void ofRange() {
        EDGE.about("promise 11");
        for (int what = 0; what <= 3; what++) {
            int asked = what;
            EDGE.range("WITNESS, " + what, 0, 3, Courts::busy, (x, v) -> x.of(v, asked), NONE);
            EDGE.range("WITNESS of ten, " + what, 0, 9, Courts::full, (x, v) -> x.of(v, asked), NONE);
            EDGE.noRange("WITNESS of none, " + what, 0, VerdictFirst::new, (x, v) -> x.of(v, asked), NONE);
        }
        EDGE.range("what of the first", 0, 3, Courts::busy, (x, v) -> x.of(0, v), NONE);
        EDGE.range("what of the last", 0, 3, Courts::busy, (x, v) -> x.of(3, v), NONE);
    }

    // "(without: none are hidden, none added)"
    private static void saysWithout() {
        EDGE.about("promise 11, without");
        for (String text : new String[] {"", "fee 1;", "rule 0 worth 1 bend 1;"}) {
            VerdictFirst x = Check.ruledBy(text);
            x.witness(0xa5a5, 0, 1, 0);
            EDGE.due("with neither: " + text, x.of(0, 0), 0xa5a5);
            x.by(NONE);
            EDGE.due("without a text", x.of(0, 0), 0xa5a5);
        }
        VerdictFirst hides = Check.ruledBy("hides 1=1;");
        hides.witness(0xa5a5, 0, 1, 0);
        EDGE.due("without adds", hides.of(0, 0), 0);
        VerdictFirst adds = Check.ruledBy("adds 1=1;");
        adds.witness(0xa5a5, 0, 1, 0);
        EDGE.due("without hides", adds.of(0, 0), 0xffff);
    }

    // "FACTS that he KNOWS and hides isn't so for; and those that he doesn't KNOW and adds is so for"
    private static void saysKnownAndUnknown() {
        EDGE.about("promise 11, what he says");
        VerdictFirst x = Check.ruledBy("hides fact=0 or fact=15;adds fact=0 or fact=15;");
        x.witness(65535, 0, 1, 0);
        x.witness(0, 0, 1, 0);
        x.witness(0x8000, 0, 1, 0);
        EDGE.due("knows all", x.of(0, 0), 0x7ffe);
        EDGE.due("knows nothing", x.of(1, 0), 0x8001);
        EDGE.due("knows the last", x.of(2, 0), 1);
    }

    // "fee (0 at least, 9999 at most ..)"
    private static void feeBounds() {
        EDGE.about("promise 11, fees");
        String[] sums = {"0-9999", "-9999*9999", "0-2", "0-1", "0", "1", "9998", "9999", "9999+1", "9999*9999"};
        int[] want = {0, 0, 0, 0, 0, 1, 9998, 9999, 9999, 9999};
        for (int i = 0; i < sums.length; i++) {
            EDGE.due(sums[i], Check.fee(sums[i]), want[i]);
            VerdictFirst x = Check.ruledBy("fee " + sums[i] + ";");
            x.witness(0, 0, 1, 50);
            EDGE.due("heard for " + sums[i], x.hear(0), want[i]);
            EDGE.due("as it was then", x.about(30), want[i]);
            EDGE.due("paid", x.rise(), want[i]);
        }
    }

    // "without: PRICE"
    private static void feeWithout() {
        EDGE.about("promise 11, fees without");
        for (int price : new int[] {0, 1, 98, 99}) {
            VerdictFirst x = Check.ruledBy("hides 1=2;");
            x.witness(0, 0, 1, price);
            EDGE.due("by a text without fee", x.of(0, 1), price);
            x.by(NONE);
            EDGE.due("without a text", x.of(0, 1), price);
        }
    }

    private static void feeOfHisOwnKind() {
        EDGE.about("promise 11, his own kind");
        VerdictFirst x = Check.ruledBy("fee 10*kind+who;");
        for (int kind = 0; kind <= 3; kind++) {
            x.witness(0, kind, 1, 0);
        }
        for (int who = 3; who >= 0; who--) {
            EDGE.due("of(" + who + ", 1)", x.of(who, 1), 11 * who);
        }
        x.kinds(0);
        EDGE.due("behind his kinds", x.of(0, 1), 0);
        x.kinds(1);
        EDGE.due("heard behind his kinds", x.hear(1), 11);
    }

    // "NONE: he is STRUCK, was HEARD, and for others"
    private static void hearRange() {
        EDGE.about("promise 12");
        EDGE.range("WITNESS", 0, 3, Courts::theft, VerdictFirst::hear, NONE);
        EDGE.range("WITNESS of ten", 0, 9, () -> Courts.row(10), VerdictFirst::hear, NONE);
        EDGE.noRange("WITNESS of none", 0, VerdictFirst::new, VerdictFirst::hear, NONE);
    }

    private static void hearStruck() {
        EDGE.about("promise 12, struck");
        EDGE.refused(Courts::busy, "hear(2)", x -> x.hear(2), NONE);
        VerdictFirst x = Courts.busy();
        x.strike(2, false);
        EDGE.due("not struck any more", x.hear(2), 1);
    }

    // "HEARD: WITNESSES as they were heard (none twice ..)"
    private static void hearTwice() {
        EDGE.about("promise 12, heard");
        EDGE.refused(Courts::busy, "hear(3), the first", x -> x.hear(3), NONE);
        EDGE.refused(Courts::busy, "hear(1), the last", x -> x.hear(1), NONE);
        VerdictFirst x = Courts.busy();
        x.strike(1, true);
        EDGE.due("struck since", x.hear(1), NONE);
        x.strike(1, false);
        EDGE.due("and not struck again", x.hear(1), NONE);
        EDGE.due("about(5)", x.about(5), 2);
        x.rise();
        EDGE.due("when nobody is", x.hear(1), 5);
    }

    // "(.. 10)"
    private static void hearTen() {
        EDGE.about("promise 12, ten");
        VerdictFirst x = Courts.row(10);
        for (int i = 0; i < 10; i++) {
            EDGE.due("about(5)", x.about(5), i);
            EDGE.due("hear(" + (9 - i) + ")", x.hear(9 - i), 1);
            EDGE.due("about(" + (10 + i) + ")", x.about(10 + i), 9 - i);
            EDGE.due("about(" + (20 + i) + ")", x.about(20 + i), 1 << 9 - i);
            EDGE.due("of(" + (9 - i) + ", 3)", x.of(9 - i, 3), 1);
        }
        EDGE.due("about(5)", x.about(5), 10);
        for (int i = 0; i < 10; i++) {
            int who = i;
            EDGE.refused(Courts::full, "hear(" + who + ")", y -> y.hear(who), NONE);
        }
    }

    // "each with what he SAID and his FEE then"
    private static void heardAsThen() {
        EDGE.about("promise 12, then");
        VerdictFirst x = Check.ruledBy("fee hour*10+many;hides hour=0;adds hour=23 and fact=15;");
        for (int i = 0; i < 3; i++) {
            x.witness(1, 0, 1, 0);
        }
        EDGE.due("at 0", x.hear(0), 0);
        x.hour(23);
        EDGE.due("at 23", x.hear(1), 231);
        x.hour(1);
        EDGE.due("at 1", x.hear(2), 12);
        x.by(NONE);
        int[] said = {0, 0x8001, 1};
        int[] fee = {0, 231, 12};
        for (int i = 0; i < 3; i++) {
            EDGE.due("he said", x.about(20 + i), said[i]);
            EDGE.due("his fee", x.about(30 + i), fee[i]);
            EDGE.due("he says", x.of(i, 0), 1);
        }
    }

    // "What STRUCK ones SAID is no evidence (they are HEARD all the same)"
    private static void heardThoughStruck() {
        EDGE.about("promise 12, struck since");
        VerdictFirst x = Courts.row(2);
        x.hear(1);
        x.hear(0);
        x.strike(1, true);
        EDGE.due("heard", x.about(5), 2);
        EDGE.due("he is the first", x.about(10), 1);
        EDGE.due("what he said", x.about(20), 2);
        EDGE.due("his fee", x.about(30), 1);
        EDGE.due("of(1, 3)", x.of(1, 3), 1);
        EDGE.due("no evidence", x.known(2, 1), 0);
        EDGE.due("the other is", x.known(2, 0), 5);
        x.strike(1, false);
        EDGE.due("not struck any more", x.known(2, 1), 5);
        EDGE.due("all fees", x.rise(), 2);
    }

    private static void riseOfNobody() {
        EDGE.about("promise 13, nobody");
        EDGE.refused(Courts::theft, "rise()", VerdictFirst::rise, 0);
        EDGE.refused(VerdictFirst::new, "rise() of a new one", VerdictFirst::rise, 0);
    }

    // "Nobody is HEARD: all FEES that were paid"
    private static void riseOfTen() {
        EDGE.about("promise 13, ten");
        VerdictFirst x = Check.ruledBy("fee 9999;");
        for (int i = 0; i < 10; i++) {
            x.witness(1, 0, 1, 0);
            x.hear(i);
        }
        x.strike(0, true);
        x.by(NONE);
        EDGE.due("all fees as they were paid", x.rise(), 99990);
        EDGE.due("about(5)", x.about(5), 0);
        EDGE.due("about(10)", x.about(10), -2);
        EDGE.due("about(20)", x.about(20), -2);
        EDGE.due("about(30)", x.about(30), -2);
        EDGE.due("known(1, 0)", x.known(1, 0), NONE);
        EDGE.due("known(0, 0)", x.known(0, 0), 0);
        for (int i = 0; i < 10; i++) {
            EDGE.due("of(" + i + ", 3)", x.of(i, 3), 0);
        }
        EDGE.due("again", x.rise(), 0);
    }

    private static void shownRange() {
        EDGE.about("promise 14");
        EDGE.range("set of four", 0, 15, Courts::busy, (x, v) -> x.shown(v, 3), NONE);
        EDGE.range("set of ten", 0, 1023, Courts::full, (x, v) -> x.shown(v, 3), NONE);
        EDGE.range("set of one", 0, 1, () -> Courts.row(1), (x, v) -> x.shown(v, 3), NONE);
        EDGE.range("set of nobody", 0, 0, VerdictFirst::new, (x, v) -> x.shown(v, 3), NONE);
        EDGE.range("FACT", 0, 15, Courts::busy, (x, v) -> x.shown(15, v), NONE);
    }

    // "what those of them who aren't STRUCK SAY now"
    private static void shownByStruck() {
        EDGE.about("promise 14, struck");
        VerdictFirst x = Courts.row(10);
        for (int i = 0; i < 10; i++) {
            EDGE.due("of a set of all, " + i, x.shown(1023, i), 5);
            x.strike(i, true);
            EDGE.due("struck, " + i, x.shown(1023, i), 0);
            EDGE.due("of him alone", x.shown(1 << i, i), 0);
        }
        EDGE.due("all are struck", x.shown(1023, 0), 0);
        EDGE.due("one set more", x.shown(1024, 0), NONE);
    }

    // "for each FACT the greatest STRENGTH of those who say it; 0"
    private static void shownByTheGreatest() {
        EDGE.about("promise 14, evidence");
        VerdictFirst x = new VerdictFirst();
        for (int strength = 1; strength <= 9; strength++) {
            x.witness(0x8001, 0, strength, 0);
        }
        for (int set = 0; set < 512; set++) {
            int greatest = 32 - Integer.numberOfLeadingZeros(set);
            if (set % 37 == 0 || Integer.bitCount(set) == 1 || set == 511) {
                EDGE.due("shown(" + set + ", 0)", x.shown(set, 0), greatest);
                EDGE.due("shown(" + set + ", 15)", x.shown(set, 15), greatest);
                EDGE.due("shown(" + set + ", 1)", x.shown(set, 1), 0);
            }
        }
    }

    // "of each RULE of it, the least of WORTH and of how strongly each FACT of by is SHOWN"
    private static void shownByTheLeastOfBy() {
        EDGE.about("promise 14, by");
        for (int worth = 1; worth <= 9; worth += 4) {
            for (int first = 1; first <= 9; first += 4) {
                for (int second = 1; second <= 9; second += 4) {
                    VerdictFirst x = Check.ruledBy("rule 15 worth " + worth + " bend 0 by 0,14;");
                    x.witness(1, 0, first, 0);
                    x.witness(1 << 14, 0, second, 0);
                    int least = Math.min(worth, Math.min(first, second));
                    EDGE.due("the least", x.shown(3, 15), least);
                    EDGE.due("without the first", x.shown(2, 15), 0);
                    EDGE.due("without the second", x.shown(1, 15), 0);
                }
            }
        }
        VerdictFirst x = Check.ruledBy("rule 1 worth 3 bend 0;rule 1 worth 4 bend 0;rule 1 worth 2 bend 0;");
        x.witness(2, 0, 5, 0);
        x.witness(2, 0, 4, 0);
        EDGE.due("without by the worth, of many the greatest", x.shown(0, 1), 4);
        EDGE.due("evidence that is greater", x.shown(1, 1), 5);
        EDGE.due("evidence that is alike", x.shown(2, 1), 4);
    }

    // "0, if one of unless is SHOWN (1 or more)"
    private static void shownUnless() {
        EDGE.about("promise 14, unless");
        VerdictFirst x = Check.ruledBy("rule 5 worth 9 bend 0 unless 0,4;rule 4 worth 1 bend 0 by 3;");
        x.witness(1, 0, 1, 0);
        x.witness(1 << 4, 0, 1, 0);
        x.witness(1 << 3, 0, 9, 0);
        x.witness(1 << 5, 0, 2, 0);
        EDGE.due("none is shown", x.shown(0, 5), 9);
        EDGE.due("the first by 1", x.shown(1, 5), 0);
        EDGE.due("the last by 1", x.shown(2, 5), 0);
        EDGE.due("the last by a rule of worth 1", x.shown(4, 5), 0);
        EDGE.due("evidence stays", x.shown(9, 5), 2);
        x.strike(0, true);
        EDGE.due("he who says it is struck", x.shown(1, 5), 9);
    }

    // "FACT by FACT from 0 on"
    private static void shownThroughAllFacts() {
        EDGE.about("promise 14, from 0 on");
        StringBuilder text = new StringBuilder();
        for (int fact = 12; fact >= 1; fact--) {
            text.append("rule").append(fact).append("worth9bend0by").append(fact - 1).append(';');
        }
        VerdictFirst x = Check.ruledBy(text.toString());
        x.witness(1, 0, 7, 0);
        for (int fact = 0; fact < 16; fact++) {
            EDGE.due("shown(1, " + fact + ")", x.shown(1, fact), fact <= 12 ? 7 : 0);
        }
        String[] rules = {"rule 3 worth 7 bend 0;", "rule 6 worth 6 bend 0 by 3;", "rule 9 worth 5 bend 0 by 6;"};
        for (int order = 0; order < 27; order++) {
            int a = order / 9;
            int b = order / 3 % 3;
            int c = order % 3;
            if (a != b && b != c && a != c) {
                // The first text is there so that its rules would be seen if they stayed.
                VerdictFirst told = Check.ruledBy("rule 9 worth 9 bend 0 by 8;rule 8 worth 9 bend 0 by 7;fee 1;");
                told.by(Check.read(told, rules[a] + rules[b] + "fee 1;" + rules[c]));
                EDGE.due("in whatever order they are told", told.shown(0, 9), 5);
                EDGE.due("in whatever order they are told", told.shown(0, 6), 6);
            }
        }
    }

    private static void knownRange() {
        EDGE.about("promise 15");
        EDGE.range("k of two", 0, 2, Courts::busy, (x, v) -> x.known(v, 3), NONE);
        EDGE.range("k of ten", 0, 10, Courts::full, (x, v) -> x.known(v, 3), NONE);
        EDGE.range("k of none", 0, 0, Courts::theft, (x, v) -> x.known(v, 3), NONE);
        EDGE.range("k of a new one", 0, 0, VerdictFirst::new, (x, v) -> x.known(v, 3), NONE);
        EDGE.range("FACT", 0, 15, Courts::busy, (x, v) -> x.known(2, v), NONE);
    }

    // "by the first k of those HEARD"
    private static void knownByTheFirst() {
        EDGE.about("promise 15, the first k");
        VerdictFirst x = Courts.row(10);
        for (int i = 9; i >= 0; i--) {
            x.hear(i);
        }
        for (int k = 0; k <= 10; k++) {
            for (int fact = 0; fact < 10; fact++) {
                EDGE.due("known(" + k + ", " + fact + ")", x.known(k, fact), 9 - fact < k ? 5 : 0);
            }
        }
        x.strike(9, true);
        EDGE.due("struck ones aside", x.known(1, 9), 0);
        EDGE.due("they are counted all the same", x.known(2, 8), 5);
        EDGE.due("they are counted all the same", x.known(1, 8), 0);
        EDGE.due("ten are heard", x.known(10, 0), 5);
        EDGE.due("no eleventh", x.known(11, 0), NONE);
    }

    // "(as they SAID ..)"
    private static void knownAsSaid() {
        EDGE.about("promise 15, as they said");
        VerdictFirst x = Check.ruledBy("hides hour=0;adds hour=0 and fact=15;");
        x.witness(1, 0, 3, 0);
        x.hear(0);
        x.hour(1);
        EDGE.due("hidden then", x.known(1, 0), 0);
        EDGE.due("added then", x.known(1, 15), 3);
        EDGE.due("not now", x.shown(1, 15), 0);
    }

    private static void followsRange() {
        EDGE.about("promise 16");
        EDGE.range("set of four", 0, 15, Courts::busy, (x, v) -> x.follows(v, 2), NONE);
        EDGE.range("set of ten", 0, 1023, Courts::full, (x, v) -> x.follows(v, 2), NONE);
        EDGE.range("VERDICT", 0, 4, Courts::busy, (x, v) -> x.follows(15, v), NONE);
        EDGE.range("VERDICT of six", 0, 5, Courts::full, (x, v) -> x.follows(15, v), NONE);
        EDGE.noRange("VERDICT of none", 0, VerdictFirst::new, (x, v) -> x.follows(0, v), NONE);
    }

    // "A VERDICT FOLLOWS, if its FACT is SHOWN by its BURDEN or more"
    private static void followsByItsBurden() {
        EDGE.about("promise 16, its burden");
        for (int strength = 1; strength <= 9; strength++) {
            for (int burden = 1; burden <= 9; burden++) {
                VerdictFirst x = Check.ruledBy("rule 1 worth " + strength + " bend 0;");
                x.witness(1, 0, strength, 0);
                x.verdict(0, burden, 0);
                x.verdict(1, burden, 0);
                EDGE.due("by evidence", x.follows(1, 0), Edge.bit(strength >= burden));
                EDGE.due("by a rule", x.follows(0, 1), Edge.bit(strength >= burden));
                EDGE.due("by nothing", x.follows(0, 0), 0);
            }
        }
    }

    private static void appealRange() {
        EDGE.about("promise 17");
        EDGE.range("k of two", 0, 2, Courts::busy, (x, v) -> x.appeal(v, 2), NONE);
        EDGE.range("k of ten", 0, 10, Courts::full, (x, v) -> x.appeal(v, 2), NONE);
        EDGE.range("k of none", 0, 0, Courts::theft, (x, v) -> x.appeal(v, 2), NONE);
        EDGE.range("VERDICT", 0, 4, Courts::busy, (x, v) -> x.appeal(2, v), NONE);
        EDGE.range("VERDICT of six", 0, 5, Courts::full, (x, v) -> x.appeal(10, v), NONE);
        EDGE.noRange("VERDICT of none", 0, VerdictFirst::new, (x, v) -> x.appeal(0, v), NONE);
    }

    private static void appealByItsBurden() {
        EDGE.about("promise 17, its burden");
        for (int burden = 1; burden <= 9; burden++) {
            VerdictFirst x = new VerdictFirst();
            for (int i = 0; i < 9; i++) {
                x.witness(1, 0, i + 1, 0);
                x.hear(i);
            }
            x.verdict(0, burden, 0);
            for (int k = 0; k <= 9; k++) {
                EDGE.due("appeal(" + k + ", 0)", x.appeal(k, 0), Edge.bit(k >= burden));
            }
            x.strike(burden - 1, true);
            EDGE.due("the one who does it is struck", x.appeal(burden, 0), 0);
        }
    }

    // "NONE: it doesn't FOLLOW, there is none such, and for others (what 0, 1 also with i NONE)"
    private static void chainRange() {
        EDGE.about("promise 18");
        EDGE.range("set", 0, 15, Courts::carried, (x, v) -> x.chain(v, 2, 0, 0), NONE);
        EDGE.range("VERDICT", 0, 4, Courts::carried, (x, v) -> x.chain(0, v, 0, 0), NONE);
        EDGE.range("i, its fact", NONE, 1, Courts::carried, (x, v) -> x.chain(0, 0, v, 0), NONE);
        EDGE.range("i, its rule", NONE, 1, Courts::carried, (x, v) -> x.chain(0, 0, v, 1), NONE);
        EDGE.range("what of the first", 0, 1, Courts::carried, (x, v) -> x.chain(0, 0, 0, v), NONE);
        EDGE.range("what of the last", 0, 1, Courts::carried, (x, v) -> x.chain(0, 0, 1, v), NONE);
        EDGE.range("what with i NONE", 0, 1, Courts::carried, (x, v) -> x.chain(0, 0, NONE, v), NONE);
        EDGE.noRange("VERDICT of none", 0, VerdictFirst::new, (x, v) -> x.chain(0, v, NONE, 0), NONE);
    }

    private static void chainThatDoesNotFollow() {
        EDGE.about("promise 18, it doesn't follow");
        for (int i = NONE; i < 3; i++) {
            int step = i;
            EDGE.refused(Courts::barred, "its fact", x -> x.chain(0, 0, step, 0), NONE);
            EDGE.refused(Courts::barred, "its rule", x -> x.chain(15, 4, step, 1), NONE);
        }
        VerdictFirst x = Courts.row(1);
        EDGE.due("by its burden", x.chain(1, 0, NONE, 0), 1);
        x.verdict(0, 6, 0);
        EDGE.due("by less", x.chain(1, 1, NONE, 0), NONE);
    }

    private static void chainOfOne() {
        EDGE.about("promise 18, one step");
        VerdictFirst x = Check.ruledBy("rule 3 worth 4 bend 0;");
        x.witness(8, 0, 5, 0);
        x.verdict(3, 1, 0);
        EDGE.due("by evidence", x.chain(1, 0, NONE, 0), 1);
        EDGE.due("its fact", x.chain(1, 0, 0, 0), 3);
        EDGE.due("its rule", x.chain(1, 0, 0, 1), NONE);
        EDGE.due("no second", x.chain(1, 0, 1, 0), NONE);
        EDGE.due("by a rule", x.chain(0, 0, NONE, 1), 1);
        EDGE.due("its fact", x.chain(0, 0, 0, 0), 3);
        EDGE.due("its rule", x.chain(0, 0, 0, 1), 0);
        EDGE.due("no second", x.chain(0, 0, 1, 1), NONE);
    }

    private static void chainOfSixteen() {
        EDGE.about("promise 18, sixteen steps");
        VerdictFirst x = Check.ruledBy("rule 15 worth 9 bend 0 by 14,13,12,11,10,9,8,7,6,5,4,3,2,1,0;");
        x.witness(0x7fff, 0, 9, 0);
        x.verdict(15, 9, 0);
        EDGE.due("steps", x.chain(1, 0, NONE, 0), 16);
        for (int i = 0; i < 16; i++) {
            EDGE.due("from the lowest on", x.chain(1, 0, i, 0), i);
            EDGE.due("its rule", x.chain(1, 0, i, 1), i == 15 ? 0 : NONE);
        }
        EDGE.due("no seventeenth", x.chain(1, 0, 16, 0), NONE);
        EDGE.due("no seventeenth", x.chain(1, 0, 16, 1), NONE);
    }

    // "one whose evidence is as strong as it is SHOWN is a step by evidence"
    private static void chainByEvidenceAsStrong() {
        EDGE.about("promise 18, evidence as strong");
        VerdictFirst x = Check.ruledBy("rule 3 worth 4 bend 0 by 0;");
        x.witness(1, 0, 9, 0);
        x.witness(8, 0, 3, 0);
        x.witness(8, 0, 4, 0);
        x.verdict(3, 1, 0);
        EDGE.due("evidence of one less", x.chain(3, 0, 1, 1), 0);
        EDGE.due("steps", x.chain(3, 0, NONE, 0), 2);
        EDGE.due("evidence as strong", x.chain(5, 0, 0, 1), NONE);
        EDGE.due("steps", x.chain(5, 0, NONE, 0), 1);
    }

    // "else by its first RULE that makes it so"
    private static void chainByTheFirstRule() {
        EDGE.about("promise 18, the first rule");
        VerdictFirst x = Check.ruledBy("rule 3 worth 3 bend 0;rule 3 worth 4 bend 0 unless 0;"
                + "rule 3 worth 9 bend 0 by 1;"
                + "rule 3 worth 4 bend 0;rule 3 worth 4 bend 0 by 2;");
        x.witness(1, 0, 1, 0);
        x.witness(2, 0, 4, 0);
        x.verdict(3, 1, 0);
        EDGE.due("the first of that strength", x.chain(0, 0, 0, 1), 1);
        EDGE.due("the first that isn't kept off", x.chain(1, 0, 0, 1), 3);
        EDGE.due("by a fact of that strength", x.chain(3, 0, 1, 1), 2);
        EDGE.due("its fact is a step", x.chain(3, 0, 0, 0), 1);
    }

    private static void weakestRange() {
        EDGE.about("promise 19");
        EDGE.range("set", 0, 15, Courts::carried, (x, v) -> x.weakest(v, 2), NONE);
        EDGE.range("VERDICT", 0, 4, Courts::carried, (x, v) -> x.weakest(0, v), NONE);
        EDGE.noRange("VERDICT of none", 0, VerdictFirst::new, (x, v) -> x.weakest(0, v), NONE);
        EDGE.refused(Courts::barred, "it doesn't follow", x -> x.weakest(15, 0), NONE);
    }

    // "of steps that are as strong as the VERDICT's FACT is SHOWN, by evidence or with that WORTH, the lowest FACT"
    private static void weakestByEvidenceOrWorth() {
        EDGE.about("promise 19, evidence or worth");
        for (int strength = 1; strength <= 9; strength++) {
            VerdictFirst x = Check.ruledBy("rule 1 worth 5 bend 0 by 0;rule 15 worth 9 bend 0 by 1;");
            x.witness(1, 0, strength, 0);
            x.verdict(15, 1, 0);
            EDGE.due("evidence of " + strength, x.weakest(1, 0), strength <= 5 ? 0 : 1);
        }
        VerdictFirst x = Check.ruledBy("rule 15 worth 4 bend 0 by 14;");
        x.witness(1 << 14, 0, 5, 0);
        x.witness(1 << 14, 0, 4, 0);
        x.witness(1 << 15, 0, 4, 0);
        x.verdict(15, 4, 0);
        EDGE.due("the worth of the last", x.weakest(1, 0), 15);
        EDGE.due("evidence below it as weak", x.weakest(2, 0), 14);
        EDGE.due("evidence of the last", x.weakest(4, 0), 15);
    }

    private static void weakestOnTheChainAlone() {
        EDGE.about("promise 19, the chain alone");
        VerdictFirst x = Check.ruledBy("rule 5 worth 3 bend 0 by 4;rule 2 worth 3 bend 0;rule 1 worth 2 bend 0;");
        x.witness(1, 0, 3, 0);
        x.witness(1 << 4, 0, 9, 0);
        x.verdict(5, 3, 0);
        EDGE.due("lower facts as strong that are no steps", x.weakest(3, 0), 5);
    }

    private static void defeatsRange() {
        EDGE.about("promise 20");
        EDGE.range("set", 0, 15, Courts::carried, (x, v) -> x.defeats(v, 2), NONE);
        EDGE.range("VERDICT", 0, 4, Courts::carried, (x, v) -> x.defeats(0, v), NONE);
        EDGE.noRange("VERDICT of none", 0, VerdictFirst::new, (x, v) -> x.defeats(0, v), NONE);
        EDGE.refused(Courts::barred, "it doesn't follow", x -> x.defeats(15, 0), NONE);
    }

    private static void defeatsOfNothing() {
        EDGE.about("promise 20, nothing does");
        EDGE.refused(Courts::carried, "defeats(15, 0)", x -> x.defeats(15, 0), 0);
        EDGE.refused(() -> Courts.row(1), "defeats(1, 0)", x -> x.defeats(1, 0), 0);
    }

    // A verdict's own fact is shown by the evidence itself, so that fact 14 is the last that can defeat one.
    private static void defeatsOfAll() {
        EDGE.about("promise 20, all facts do");
        VerdictFirst x = Check.ruledBy("rule 15 worth 1 bend 0 unless 0,1,2,3,4,5,6,7,8,9,10,11,12,13,14;");
        x.verdict(15, 1, 0);
        EDGE.due("defeats(0, 0)", x.defeats(0, 0), 0x7fff);
        VerdictFirst one = Check.ruledBy("rule 15 worth 1 bend 0 unless 14;"
                + "rule 14 worth 1 bend 0 by 0,1;rule 1 worth 1 bend 0;");
        one.verdict(15, 1, 0);
        EDGE.due("at once, and through a rule", one.defeats(0, 0), 1 << 14 | 1);
    }

    // "keeps a VERDICT that FOLLOWS by it from following"
    private static void defeatsBelowTheBurden() {
        EDGE.about("promise 20, its burden");
        for (int burden = 1; burden <= 4; burden++) {
            VerdictFirst x = Check.ruledBy("rule 5 worth 4 bend 0 unless 0;rule 5 worth 3 bend 0;");
            x.verdict(5, burden, 0);
            EDGE.due("another rule of 3, burden " + burden, x.defeats(0, 0), burden == 4 ? 1 : 0);
        }
        VerdictFirst nine = Check.ruledBy("rule 5 worth 9 bend 0 unless 0;rule 5 worth 9 bend 0 by 0;");
        nine.verdict(5, 9, 0);
        EDGE.due("evidence of 9 that carries it as well", nine.defeats(0, 0), 0);
        VerdictFirst beside = Check.ruledBy("rule 5 worth 9 bend 0 by 3 unless 4;");
        beside.witness(8, 0, 9, 0);
        beside.witness(8, 0, 8, 0);
        beside.verdict(5, 9, 0);
        beside.verdict(5, 8, 0);
        EDGE.due("evidence of 9 that was there stays", beside.defeats(1, 0), 16);
        EDGE.due("evidence of 8 that was there stays", beside.defeats(2, 1), 16);
        EDGE.due("what was asked ahead is gone", beside.defeats(2, 0), NONE);
    }
}
