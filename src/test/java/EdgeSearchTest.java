/** The edges of promises 21 to 26: the least, never, together, the statute to amend and the day. */
public final class EdgeSearchTest {
    private static final Edge EDGE = new Edge();
    private static final int NONE = Edge.NONE;

    private EdgeSearchTest() {
    }

    public static void main(String[] args) {
        leastRange();
        leastOfNone();
        leastOfNothing();
        leastOfAll();
        leastAgainstBending();
        leastOfLikeSets();
        leastOfLikeRules();
        leastNoneBentAhead();
        leastBendsOneAlone();
        leastOfTheStruck();
        leastAsHeardNow();
        neverOfNone();
        neverOfAll();
        neverByOneSet();
        neverBends();
        togetherRange();
        togetherByAllSetsButOne();
        togetherByOneSet();
        togetherByNoSet();
        togetherByTheirBurdens();
        amendRange();
        amendOfNone();
        amendFirstAndLast();
        amendByTheBurden();
        amendAgainstTheWeakest();
        dayRanges();
        daySeven();
        dayOfNobody();
        dayOfNoHours();
        dayPurse();
        dayOfSixHours();
        dayStrikes();
        dayOfThoseHeard();
        dayHourStays();
        bestRanges();
        bestOfNoHours();
        bestLowest();
        bestNone();
        bestOfTheNinth();
        bestThatCanBePaid();
        EDGE.end();
    }

    /** A new court under a text with one verdict. */
    private static VerdictFirst court(String text, int fact, int burden) {
        VerdictFirst x = Check.ruledBy(text);
        x.verdict(fact, burden, 1);
        return x;
    }

    private static void least(VerdictFirst x, String name, int cost, int set, int rule) {
        EDGE.due(name + ", its cost", x.least(0, 0), cost);
        EDGE.due(name + ", its set", x.least(0, 1), set);
        EDGE.due(name + ", its rule", x.least(0, 2), rule);
    }

    private static void leastRange() {
        EDGE.about("promise 21");
        for (int what = 0; what <= 2; what++) {
            int asked = what;
            EDGE.range("VERDICT, " + what, 0, 4, Courts::barred, (x, v) -> x.least(v, asked), NONE);
            EDGE.noRange("VERDICT of none, " + what, 0, VerdictFirst::new, (x, v) -> x.least(v, asked), NONE);
        }
        EDGE.range("VERDICT of six", 0, 5, Courts::full, (x, v) -> x.least(v, 0), NONE);
        EDGE.range("what", 0, 2, Courts::barred, (x, v) -> x.least(0, v), NONE);
    }

    // "NONE: none"
    private static void leastOfNone() {
        EDGE.about("promise 21, none");
        VerdictFirst x = Courts.row(10);
        x.by(Check.read(x, "rule 11 worth 9 bend 0 by 10;"));
        x.verdict(11, 1, 0);
        for (int what = 0; what < 3; what++) {
            EDGE.due("least(1, " + what + ")", x.least(1, what), NONE);
        }
        x.verdict(0, 6, 0);
        for (int what = 0; what < 3; what++) {
            EDGE.due("least(2, " + what + ")", x.least(2, what), NONE);
        }
        VerdictFirst behind = Courts.barred();
        behind.verdict(9, 1, 0);
        for (int what = 0; what < 3; what++) {
            EDGE.due("one that is bent", behind.least(0, what), new int[] {7, 0, 1}[what]);
            EDGE.due("none behind it", behind.least(5, what), NONE);
        }
    }

    private static void leastOfNothing() {
        EDGE.about("promise 21, for nothing");
        least(court("rule 1 worth 1 bend 9;", 1, 1), "by a rule alone", 0, 0, NONE);
        VerdictFirst x = court("fee 0;", 0, 1);
        x.witness(1, 0, 1, 50);
        least(x, "a fee of 0", 0, 1, NONE);
    }

    private static void leastOfAll() {
        EDGE.about("promise 21, the dearest");
        VerdictFirst x = court("fee 9999;rule 10 worth 1 bend 0;"
                + "rule 15 worth 1 bend 99 by 0,1,2,3,4,5,6,7,8,9 unless 10;", 15, 1);
        for (int i = 0; i < 10; i++) {
            x.witness(1 << i, 0, 1, 0);
        }
        least(x, "all ten and a rule", 10 * 9999 + 99, 1023, 2);
    }

    // "the least of all FEES now and BEND together"
    private static void leastAgainstBending() {
        EDGE.about("promise 21, bending");
        for (int price = 3; price <= 5; price++) {
            VerdictFirst x = court("rule 0 worth 1 bend 0;rule 1 worth 1 bend 4 unless 0;", 1, 1);
            x.witness(2, 0, 1, price);
            if (price < 4) {
                least(x, "a witness of " + price, price, 1, NONE);
            } else {
                least(x, "bending against " + price, 4, 0, 1);
            }
        }
    }

    // "of like ones the lowest set"
    private static void leastOfLikeSets() {
        EDGE.about("promise 21, like sets");
        for (int second = 4; second <= 6; second++) {
            VerdictFirst x = new VerdictFirst();
            x.witness(1, 0, 1, 5);
            x.witness(1, 0, 1, second);
            x.verdict(0, 1, 0);
            least(x, "5 against " + second, Math.min(5, second), second < 5 ? 2 : 1, NONE);
        }
        VerdictFirst two = court("rule 2 worth 1 bend 0 by 0,1;", 2, 1);
        two.witness(1, 0, 1, 2);
        two.witness(2, 0, 1, 3);
        two.witness(4, 0, 1, 5);
        least(two, "two against one", 5, 3, NONE);
    }

    // "then the lowest RULE"
    private static void leastOfLikeRules() {
        EDGE.about("promise 21, like rules");
        for (int bend = 3; bend <= 5; bend++) {
            VerdictFirst x = court("rule 0 worth 1 bend 0;rule 1 worth 1 bend 4 unless 0;rule 1 worth 1 bend " + bend
                    + " unless 0;", 1, 1);
            least(x, "4 against " + bend, Math.min(4, bend), 0, bend < 4 ? 2 : 1);
        }
        VerdictFirst x = court("rule2worth1bend0;" + "rule0worth1bend1;".repeat(14) + "rule3worth1bend0unless2;", 3, 1);
        least(x, "the last of sixteen", 0, 0, 15);
        VerdictFirst first = court("rule 3 worth 1 bend 6 unless 2;rule 2 worth 1 bend 0;", 3, 1);
        least(first, "the first of all", 6, 0, 0);
        VerdictFirst weak = court("rule 3 worth 1 bend 6 by 0 unless 0;", 3, 1);
        weak.witness(1, 0, 1, 2);
        least(weak, "kept off by evidence of 1", 8, 1, 0);
    }

    // "then none BENT"
    private static void leastNoneBentAhead() {
        EDGE.about("promise 21, none bent");
        VerdictFirst x = court("rule 3 worth 1 bend 0 by 0 unless 0;rule 3 worth 1 bend 0 by 0;", 3, 1);
        x.witness(1, 0, 1, 7);
        least(x, "none bent ahead of one for nothing", 7, 1, NONE);
        VerdictFirst set = court("rule 0 worth 1 bend 0;rule 3 worth 1 bend 0 unless 0;", 3, 1);
        set.witness(8, 0, 1, 0);
        least(set, "the lowest set ahead of none bent", 0, 0, 1);
    }

    // "of no RULE or one that is BENT"
    private static void leastBendsOneAlone() {
        EDGE.about("promise 21, one rule");
        VerdictFirst x = court("rule 0 worth 1 bend 0;rule 1 worth 1 bend 1 unless 0;"
                + "rule 2 worth 1 bend 1 by 1 unless 0;", 2, 1);
        least(x, "two that would have to be", NONE, NONE, NONE);
        x.witness(2, 0, 1, 50);
        least(x, "one of them", 51, 1, 2);
    }

    // "of all sets of WITNESSES that aren't STRUCK"
    private static void leastOfTheStruck() {
        EDGE.about("promise 21, struck");
        VerdictFirst x = Courts.row(0);
        x.witness(1, 0, 5, 2);
        x.witness(1, 0, 5, 3);
        x.witness(1, 0, 5, 4);
        least(x, "nobody is", 2, 1, NONE);
        x.strike(0, true);
        least(x, "the first is", 3, 2, NONE);
        x.strike(2, true);
        x.strike(0, false);
        least(x, "the last is", 2, 1, NONE);
        x.strike(0, true);
        x.strike(1, true);
        least(x, "all are", NONE, NONE, NONE);
    }

    // "(many: as HEARD now)"
    private static void leastAsHeardNow() {
        EDGE.about("promise 21, as heard now");
        VerdictFirst x = court("fee 1+many;", 0, 1);
        for (int i = 0; i < 10; i++) {
            x.witness(1, 0, 1, 0);
            EDGE.due("with " + i + " heard", x.least(0, 0), 1 + i);
            x.hear(i);
        }
        EDGE.due("with all heard", x.least(0, 0), 11);
        x.rise();
        EDGE.due("with nobody heard", x.least(0, 0), 1);
    }

    private static void neverOfNone() {
        EDGE.about("promise 22, none");
        EDGE.due("no verdicts", new VerdictFirst().never(), 0);
        VerdictFirst witnesses = new VerdictFirst();
        witnesses.witness(1, 0, 1, 0);
        EDGE.due("no verdicts, a witness", witnesses.never(), 0);
        EDGE.due("all follow", Courts.carried().never(), 0);
        EDGE.due("the only one follows", Courts.row(1).never(), 0);
        EDGE.due("the only one doesn't", Courts.row(0).never(), 1);
    }

    private static void neverOfAll() {
        EDGE.about("promise 22, all");
        EDGE.due("five", Courts.barred().never(), 31);
        VerdictFirst x = new VerdictFirst();
        for (int i = 0; i < 6; i++) {
            x.verdict(i, 1, 0);
            EDGE.due("nobody", x.never(), (2 << i) - 1);
        }
        x.witness(1 << 5, 0, 1, 0);
        EDGE.due("but the last", x.never(), 31);
        x.witness(1, 0, 1, 0);
        EDGE.due("but the first too", x.never(), 30);
        x.strike(0, true);
        x.strike(1, true);
        EDGE.due("who are struck", x.never(), 63);
        for (int open = 0; open < 6; open++) {
            VerdictFirst last = new VerdictFirst();
            for (int i = 0; i < 6; i++) {
                last.witness(1 << (open + 1 + i) % 6, 0, 1, 0);
                last.verdict(i, 1, 0);
            }
            EDGE.due("the last witness carries " + open, last.never(), 0);
            last.strike(5, true);
            EDGE.due("struck he doesn't", last.never(), 1 << open);
        }
    }

    // "VERDICTS that FOLLOW by no set"
    private static void neverByOneSet() {
        EDGE.about("promise 22, one set");
        VerdictFirst x = court("rule 10 worth 5 bend 0 by 0,1,2,3,4,5,6,7,8,9;"
                + "rule 11 worth 5 bend 0 unless 0,1,2,3,4,5,6,7,8,9;", 10, 5);
        x.verdict(11, 5, 0);
        x.verdict(10, 6, 0);
        x.verdict(11, 6, 0);
        EDGE.due("by the empty set alone", x.never(), 1 | 4 | 8);
        for (int i = 0; i < 10; i++) {
            EDGE.due("with " + i, x.never(), 1 | 4 | 8);
            x.witness(1 << i, 0, 9, 0);
        }
        EDGE.due("by the whole set alone", x.never(), 4 | 8);
        x.strike(9, true);
        EDGE.due("one of it is struck", x.never(), 1 | 4 | 8);
    }

    // "(nothing BENT)"
    private static void neverBends() {
        EDGE.about("promise 22, nothing bent");
        VerdictFirst x = Courts.barred();
        EDGE.due("never()", x.never(), 31);
        EDGE.due("though bending would do", x.least(0, 0), 7);
    }

    // "False for others (one and the same)"
    private static void togetherRange() {
        EDGE.about("promise 23");
        EDGE.range("one", 0, 4, Courts::carried, (x, v) -> Edge.bit(x.together(v, 2)), 0);
        EDGE.range("other", 0, 4, Courts::carried, (x, v) -> Edge.bit(x.together(2, v)), 0);
        EDGE.range("of five, with the last", 0, 3, Courts::carried, (x, v) -> Edge.bit(x.together(v, 4)), 0);
        EDGE.range("of five, with the first", 1, 4, Courts::carried, (x, v) -> Edge.bit(x.together(0, v)), 0);
        for (int i = 0; i < 5; i++) {
            int same = i;
            EDGE.refused(Courts::carried, "one and the same", x -> Edge.bit(x.together(same, same)), 0);
        }
        EDGE.refused(() -> Courts.row(1), "one verdict", x -> Edge.bit(x.together(0, 1)), 0);
        EDGE.refused(VerdictFirst::new, "no verdicts", x -> Edge.bit(x.together(0, 1)), 0);
    }

    // "two VERDICTS that FOLLOW by just the same sets"
    private static void togetherByAllSetsButOne() {
        EDGE.about("promise 23, but one set");
        String either = "rule 2 worth 1 bend 0 by 0;rule 2 worth 1 bend 0 by 1;";
        String always = "rule 3 worth 1 bend 0;";
        String just = "rule 4 worth 1 bend 0 by 0 unless 1;rule 4 worth 1 bend 0 by 1 unless 0;";
        String again = "rule 5 worth 1 bend 0 by 1;rule 5 worth 1 bend 0 by 0;";
        VerdictFirst x = court(either + always + just + again, 2, 1);
        x.verdict(3, 1, 0);
        x.verdict(4, 1, 0);
        x.verdict(5, 1, 0);
        x.witness(1, 0, 1, 0);
        x.witness(2, 0, 1, 0);
        EDGE.due("all sets alike", x.together(0, 3), true);
        EDGE.due("all but the empty set", x.together(0, 1), false);
        EDGE.due("all but the whole set", x.together(0, 2), false);
        EDGE.due("but the first witness's set", x.together(1, 2), false);
        x.strike(1, true);
        EDGE.due("the set that was unlike is struck", x.together(0, 2), true);
        EDGE.due("the empty set stays", x.together(0, 1), false);
    }

    private static void togetherByOneSet() {
        EDGE.about("promise 23, by one set");
        VerdictFirst x = court("rule 10 worth 1 bend 0 by 0,1,2,3,4,5,6,7,8,9;rule 11 worth 1 bend 0 by 10;"
                + "rule 12 worth 1 bend 0 unless 0;rule 13 worth 1 bend 0 unless 0;", 10, 1);
        x.verdict(11, 1, 0);
        x.verdict(12, 1, 0);
        x.verdict(13, 1, 0);
        EDGE.due("by the empty set alone", x.together(2, 3), true);
        EDGE.due("not yet", x.together(0, 1), false);
        for (int i = 0; i < 10; i++) {
            x.witness(1 << i, 0, 1, 0);
        }
        EDGE.due("by the whole set alone", x.together(0, 1), true);
    }

    // "by one at least"
    private static void togetherByNoSet() {
        EDGE.about("promise 23, by no set");
        VerdictFirst x = Courts.row(2);
        x.verdict(5, 1, 0);
        x.verdict(6, 1, 0);
        EDGE.due("neither ever follows", x.together(1, 2), false);
        EDGE.due("one never follows", x.together(0, 1), false);
        EDGE.due("nor bent", Courts.barred().together(0, 1), false);
    }

    private static void togetherByTheirBurdens() {
        EDGE.about("promise 23, their burdens");
        VerdictFirst x = Courts.row(1);
        for (int burden = 4; burden <= 6; burden++) {
            x.verdict(0, burden, 0);
        }
        EDGE.due("4 and 5 by evidence of 5", x.together(0, 1), true);
        EDGE.due("5 and 5", x.together(0, 2), true);
        EDGE.due("5 and 6", x.together(2, 3), false);
    }

    // "NONE: none, it FOLLOWS, and for others"
    private static void amendRange() {
        EDGE.about("promise 24");
        EDGE.range("set", 0, 15, Courts::barred, (x, v) -> x.amend(v, 2), NONE);
        EDGE.range("VERDICT", 0, 4, Courts::barred, (x, v) -> x.amend(15, v), NONE);
        EDGE.noRange("VERDICT of none", 0, VerdictFirst::new, (x, v) -> x.amend(0, v), NONE);
        EDGE.refused(Courts::carried, "it follows", x -> x.amend(15, 0), NONE);
    }

    private static void amendOfNone() {
        EDGE.about("promise 24, none");
        EDGE.refused(() -> Courts.row(1), "without rules", x -> x.amend(0, 0), NONE);
        VerdictFirst x = court("rule 0 worth 1 bend 0;rule 1 worth 1 bend 0 unless 0;"
                + "rule 2 worth 1 bend 0 by 1 unless 0;"
                + "rule 3 worth 1 bend 0 by 0;", 2, 1);
        EDGE.due("two that would have to be", x.amend(0, 0), NONE);
        x.verdict(3, 2, 0);
        EDGE.due("a rule that nothing keeps off", x.amend(0, 1), NONE);
    }

    // "the lowest RULE by whose being BENT it does"
    private static void amendFirstAndLast() {
        EDGE.about("promise 24, the lowest");
        String barred = "rule3worth1bend9unless2;";
        VerdictFirst first = court(barred + "rule2worth1bend0;" + barred, 3, 1);
        EDGE.due("the first of all", first.amend(0, 0), 0);
        VerdictFirst last = court("rule2worth1bend0;" + "rule0worth1bend1;".repeat(14) + barred, 3, 1);
        EDGE.due("the last of sixteen", last.amend(0, 0), 15);
        VerdictFirst cheaper = court("rule 2 worth 1 bend 0;rule 3 worth 1 bend 99 unless 2;"
                + "rule 3 worth 1 bend 0 unless 2;", 3, 1);
        EDGE.due("the lowest, not the cheapest", cheaper.amend(0, 0), 1);
    }

    private static void amendByTheBurden() {
        EDGE.about("promise 24, its burden");
        for (int burden = 1; burden <= 9; burden++) {
            VerdictFirst x = court("rule 0 worth 1 bend 0;rule 1 worth 4 bend 0 unless 0;"
                    + "rule 1 worth 8 bend 0 unless 0;", 1, burden);
            EDGE.due("burden " + burden, x.amend(0, 0), burden <= 4 ? 1 : burden <= 8 ? 2 : NONE);
            VerdictFirst by = court("rule 0 worth 1 bend 0;rule 2 worth 9 bend 0 by 1 unless 0;", 2, burden);
            by.witness(2, 0, 3, 0);
            EDGE.due("by a fact of 3, burden " + burden, by.amend(1, 0), burden <= 3 ? 1 : NONE);
            EDGE.due("by a fact that isn't shown", by.amend(0, 0), NONE);
        }
    }

    private static void amendAgainstTheWeakest() {
        EDGE.about("promise 24, kept off by 1");
        VerdictFirst x = court("rule 1 worth 9 bend 0 unless 0;", 1, 9);
        x.witness(1, 0, 1, 0);
        EDGE.due("evidence of 1 keeps it off", x.follows(1, 0), 0);
        EDGE.due("bent it doesn't", x.amend(1, 0), 0);
        EDGE.due("nothing keeps it off", x.amend(0, 0), NONE);
    }

    // "PURSE (0 .. 999)", "k STRIKES (0 .. 2)", "n HOURS (0 .. 6 ..)"
    private static void dayRanges() {
        EDGE.about("promise 25");
        EDGE.range("VERDICT", 0, 4, Courts::carried, (x, v) -> x.day(v, 2, 1, 50), NONE);
        EDGE.range("HOURS", 0, 6, Courts::carried, (x, v) -> x.day(0, v, 1, 50), NONE);
        EDGE.range("STRIKES", 0, 2, Courts::carried, (x, v) -> x.day(0, 2, v, 50), NONE);
        EDGE.range("PURSE", 0, 999, Courts::carried, (x, v) -> x.day(0, 2, 1, v), NONE);
        EDGE.noRange("VERDICT of none", 0, VerdictFirst::new, (x, v) -> x.day(v, 2, 1, 50), NONE);
        EDGE.range("HOURS that are lost", 0, 6, Courts::barred, (x, v) -> x.day(0, v, 1, 50), NONE);
    }

    // "(6 WITNESSES at most that aren't STRUCK ..)"
    private static void daySeven() {
        EDGE.about("promises 25 and 26, seven");
        EDGE.due("six", Courts.row(6).day(0, 1, 0, 1), 1);
        EDGE.due("six", Courts.row(6).best(0, 1, 0, 1), 0);
        EDGE.refused(() -> Courts.row(7), "seven", x -> x.day(0, 1, 0, 1), NONE);
        EDGE.refused(() -> Courts.row(7), "seven", x -> x.best(0, 1, 0, 1), NONE);
        EDGE.refused(Courts::full, "ten", x -> x.day(0, 1, 0, 1), NONE);
        VerdictFirst x = Courts.row(10);
        for (int i = 9; i > 6; i--) {
            x.strike(i, true);
            EDGE.due("of ten " + i + " are left", x.day(0, 1, 0, 1), NONE);
            EDGE.due("of ten " + i + " are left", x.best(0, 1, 0, 1), NONE);
        }
        x.strike(6, true);
        EDGE.due("of ten six are left", x.day(0, 1, 0, 1), 1);
        EDGE.due("of ten six are left", x.best(0, 1, 0, 1), 0);
        x.strike(0, true);
        EDGE.due("the one who knows is struck", x.day(0, 6, 0, 999), 0);
    }

    private static void dayOfNobody() {
        EDGE.about("promises 25 and 26, nobody");
        VerdictFirst x = Courts.row(0);
        EDGE.due("it doesn't follow", x.day(0, 6, 2, 999), 0);
        EDGE.due("it doesn't follow", x.best(0, 6, 2, 999), NONE);
        VerdictFirst follows = court("rule 0 worth 1 bend 0;", 0, 1);
        EDGE.due("it follows", follows.day(0, 6, 2, 999), 1);
        EDGE.due("none can be called", follows.best(0, 6, 2, 999), 10);
    }

    private static void dayOfNoHours() {
        EDGE.about("promise 25, no hours");
        EDGE.due("it follows by nobody", Courts.carried().day(0, 0, 2, 0), 1);
        EDGE.due("it needs one", Courts.row(1).day(0, 0, 0, 999), 0);
        EDGE.due("one hour is enough", Courts.row(1).day(0, 1, 0, 999), 1);
    }

    // "whose FEE he can pay"
    private static void dayPurse() {
        EDGE.about("promise 25, the purse");
        for (int fee : new int[] {0, 1, 998, 999}) {
            VerdictFirst x = court("fee " + fee + ";", 0, 1);
            x.witness(1, 0, 1, 0);
            EDGE.due("a fee of " + fee, x.day(0, 1, 0, fee), 1);
            EDGE.due("one less", x.day(0, 1, 0, fee - 1), fee == 0 ? NONE : 0);
        }
        VerdictFirst x = court("fee 1000;", 0, 1);
        x.witness(1, 0, 1, 0);
        EDGE.due("a fee of 1000", x.day(0, 1, 0, 999), 0);
        VerdictFirst two = court("fee 500-who;rule 2 worth 1 bend 0 by 0,1;", 2, 1);
        two.witness(1, 0, 1, 0);
        two.witness(2, 0, 1, 0);
        EDGE.due("both together", two.day(0, 2, 0, 999), 1);
        EDGE.due("one less than both", two.day(0, 2, 0, 998), 0);
    }

    // "(many: those heard so far)": 0 + 1 + .. + 5 for six.
    private static void dayOfSixHours() {
        EDGE.about("promise 25, six hours");
        VerdictFirst x = court("fee many;rule 15 worth 1 bend 0 by 0,1,2,3,4,5;", 15, 1);
        for (int i = 0; i < 6; i++) {
            x.witness(1 << i, 0, 1, 0);
        }
        EDGE.due("all six", x.day(0, 6, 0, 15), 1);
        EDGE.due("a purse of one less", x.day(0, 6, 0, 14), 0);
        EDGE.due("an hour less", x.day(0, 5, 0, 999), 0);
        EDGE.due("a strike", x.day(0, 6, 1, 999), 0);
        EDGE.due("the first of six", x.best(0, 6, 0, 15), 0);
        EDGE.due("a purse of one less", x.best(0, 6, 0, 14), NONE);
        EDGE.due("an hour less", x.best(0, 5, 0, 999), NONE);
    }

    // "the ADVOCATE strikes one who is neither, if a STRIKE is left, or none"
    private static void dayStrikes() {
        EDGE.about("promise 25, strikes");
        VerdictFirst one = Courts.row(1);
        EDGE.due("who is heard can't be struck", one.day(0, 6, 2, 1), 1);
        VerdictFirst two = court("rule 2 worth 1 bend 0 by 0,1;", 2, 1);
        two.witness(1, 0, 1, 0);
        two.witness(2, 0, 1, 0);
        EDGE.due("two, no strike", two.day(0, 2, 0, 0), 1);
        EDGE.due("two, one strike", two.day(0, 2, 1, 0), 0);
        VerdictFirst x = court("rule 3 worth 1 bend 0 by 0,1,2;", 3, 1);
        x.witness(1, 0, 1, 0);
        x.witness(2, 0, 1, 0);
        x.witness(4, 0, 1, 0);
        x.witness(6, 0, 1, 0);
        int[][] want = {{3, 0, 1}, {3, 1, 1}, {3, 2, 0}, {2, 0, 1}, {2, 1, 0}, {1, 0, 0}, {6, 1, 1}, {6, 2, 0}};
        for (int[] row : want) {
            EDGE.due(row[0] + " hours, " + row[1] + " strikes", x.day(0, row[0], row[1], 0), row[2]);
        }
        EDGE.due("the one that nobody stands for", x.best(0, 3, 1, 0), 0);
        EDGE.due("none will do", x.best(0, 3, 2, 0), NONE);
    }

    // "nobody is heard at first"
    private static void dayOfThoseHeard() {
        EDGE.about("promise 25, heard already");
        VerdictFirst x = court("fee many*100;", 0, 1);
        x.witness(1, 0, 1, 0);
        x.witness(2, 0, 1, 0);
        x.hear(0);
        x.hear(1);
        EDGE.due("he isn't heard that day", x.day(0, 0, 0, 0), 0);
        EDGE.due("he can be called", x.day(0, 1, 0, 0), 1);
        EDGE.due("he can be called", x.best(0, 1, 0, 0), 0);
        EDGE.due("they stay heard", x.about(5), 2);
    }

    // "HOUR stays", "(as they SAY now)"
    private static void dayHourStays() {
        EDGE.about("promise 25, the hour");
        VerdictFirst x = court("adds hour=1 and fact=0;fee hour*10;", 0, 1);
        x.witness(0, 0, 1, 0);
        EDGE.due("at 0", x.day(0, 6, 0, 999), 0);
        x.hour(1);
        EDGE.due("at 1", x.day(0, 6, 0, 10), 1);
        EDGE.due("at 1", x.day(0, 6, 0, 9), 0);
        x.hour(2);
        EDGE.due("at 2", x.day(0, 6, 0, 999), 0);
        EDGE.due("it stays", x.about(2), 2);
    }

    private static void bestRanges() {
        EDGE.about("promise 26");
        EDGE.range("VERDICT", 0, 4, Courts::carried, (x, v) -> x.best(v, 2, 1, 50), NONE);
        EDGE.range("HOURS", 1, 6, Courts::carried, (x, v) -> x.best(0, v, 1, 50), NONE);
        EDGE.range("STRIKES", 0, 2, Courts::carried, (x, v) -> x.best(0, 2, v, 50), NONE);
        EDGE.range("PURSE", 0, 999, Courts::carried, (x, v) -> x.best(0, 2, 1, v), NONE);
        EDGE.noRange("VERDICT of none", 0, VerdictFirst::new, (x, v) -> x.best(v, 2, 1, 50), NONE);
        EDGE.refused(Courts::barred, "he doesn't win", x -> x.best(0, 6, 0, 999), NONE);
    }

    // "NONE: .. n is 0"
    private static void bestOfNoHours() {
        EDGE.about("promise 26, no hours");
        VerdictFirst x = Courts.carried();
        EDGE.due("he wins", x.day(0, 0, 0, 50), 1);
        EDGE.due("but calls nobody", x.best(0, 0, 0, 50), NONE);
    }

    // "his first call by which he WINS whatever is struck (the lowest ..)"
    private static void bestLowest() {
        EDGE.about("promise 26, the lowest");
        VerdictFirst x = Courts.carried();
        EDGE.due("any will do", x.best(0, 1, 0, 99), 0);
        x.strike(0, true);
        EDGE.due("the first is struck", x.best(0, 1, 0, 99), 1);
        VerdictFirst two = court("rule 2 worth 1 bend 0 by 0,1;", 2, 1);
        two.witness(1, 0, 1, 0);
        two.witness(1, 0, 1, 0);
        two.witness(2, 0, 1, 0);
        EDGE.due("without strikes", two.best(0, 2, 0, 0), 0);
        EDGE.due("whatever is struck", two.best(0, 2, 1, 0), 2);
        EDGE.due("an hour too few", two.best(0, 1, 0, 0), NONE);
    }

    // "(.. none behind all)": 10.
    private static void bestNone() {
        EDGE.about("promise 26, none");
        VerdictFirst x = court("rule 1 worth 1 bend 0 unless 0;", 1, 1);
        for (int i = 0; i < 6; i++) {
            x.witness(1, 0, 1, 0);
        }
        EDGE.due("each would harm", x.best(0, 1, 2, 999), 10);
        EDGE.due("each would harm", x.best(0, 6, 2, 999), 10);
        x.strike(5, true);
        x.witness(2, 0, 1, 0);
        EDGE.due("the last wouldn't", x.best(0, 1, 2, 999), 6);
        VerdictFirst idle = new VerdictFirst();
        idle.verdict(0, 1, 0);
        idle.witness(0, 0, 1, 1);
        idle.witness(1, 0, 1, 1);
        EDGE.due("an hour to spare goes to the lowest", idle.best(0, 2, 0, 2), 0);
        EDGE.due("not if too little is left", idle.best(0, 2, 0, 1), 1);
        EDGE.due("not if the other can be struck", idle.best(0, 2, 1, 2), 1);
    }

    private static void bestOfTheNinth() {
        EDGE.about("promise 26, numbers of witnesses");
        VerdictFirst x = new VerdictFirst();
        for (int i = 0; i < 10; i++) {
            x.witness(i == 9 ? 1 : 2, 0, 1, 5);
        }
        x.verdict(0, 1, 0);
        for (int i = 1; i < 5; i++) {
            x.strike(i, true);
        }
        EDGE.due("the last of ten", x.best(0, 1, 0, 5), 9);
        EDGE.due("the last of ten, an hour left", x.best(0, 2, 0, 5), 9);
        EDGE.due("another first, an hour left", x.best(0, 2, 0, 10), 0);
    }

    private static void bestThatCanBePaid() {
        EDGE.about("promise 26, what he can pay");
        VerdictFirst x = new VerdictFirst();
        x.witness(1, 0, 1, 9);
        x.witness(1, 0, 1, 8);
        x.witness(1, 0, 1, 7);
        x.verdict(0, 1, 0);
        int[] want = {NONE, 2, 1, 0, 0};
        for (int i = 0; i < want.length; i++) {
            EDGE.due("a purse of " + (6 + i), x.best(0, 1, 0, 6 + i), want[i]);
        }
    }
}
