/** The edges of promises 27 to 32: sayings, kinds, draws, the image and what there is. */
public final class EdgeRecordTest {
    private static final Edge EDGE = new Edge();
    private static final int NONE = Edge.NONE;

    private EdgeRecordTest() {
    }

    public static void main(String[] args) {
        tellRange();
        twentySayings();
        kindsRange();
        kindsOfNothingTold();
        kindsEach();
        kindsOfFirstAndLastFact();
        kindsByTheTwentieth();
        kindsElseAsHeIs();
        drawsRange();
        drawsOfNoChance();
        drawnByNumber();
        drawnByTheLastLot();
        drawsOfThirty();
        drawsWithoutALeast();
        drawsOfTheDearest();
        imageOfNothing();
        imageOfAll();
        imageOfEachThing();
        imageWithoutTheTape();
        imageWithoutTheFault();
        theImageStays();
        textsBehindTheImage();
        aboutRange();
        aboutTen();
        aboutWithoutAText();
        aboutGreatest();
        EDGE.end();
    }

    private static void tellRange() {
        EDGE.about("promise 27");
        EDGE.range("WITNESS", 0, 3, Courts::busy, (x, v) -> x.tell(v, 5, true), NONE);
        EDGE.range("WITNESS of ten", 0, 9, () -> Courts.row(10), (x, v) -> x.tell(v, 5, false), NONE);
        EDGE.noRange("WITNESS of none", 0, VerdictFirst::new, (x, v) -> x.tell(v, 5, true), NONE);
        EDGE.range("FACT", 0, 15, Courts::busy, (x, v) -> x.tell(0, v, true), NONE);
        EDGE.range("FACT that he doesn't say", 0, 15, Courts::busy, (x, v) -> x.tell(0, v, false), NONE);
    }

    // "TOLD sayings (20 at most)", "or if there are 20"
    private static void twentySayings() {
        EDGE.about("promise 27, twenty");
        VerdictFirst x = Courts.row(1);
        for (int i = 1; i <= 20; i++) {
            EDGE.due("how many there are", x.tell(0, 0, true), i);
            EDGE.due("about(6)", x.about(6), i);
        }
        EDGE.refused(Courts::full, "the 21st", y -> y.tell(0, 0, false), NONE);
        EDGE.refused(Courts::full, "the 21st, of the last", y -> y.tell(9, 15, true), NONE);
        EDGE.refused(Courts::full, "the 21st, wrong too", y -> y.tell(10, 16, true), NONE);
    }

    private static void kindsRange() {
        EDGE.about("promise 28");
        EDGE.range("WITNESS", 0, 3, Courts::busy, VerdictFirst::kinds, NONE);
        EDGE.range("WITNESS of ten", 0, 9, Courts::full, VerdictFirst::kinds, NONE);
        EDGE.noRange("WITNESS of none", 0, VerdictFirst::new, VerdictFirst::kinds, NONE);
    }

    private static void kindsOfNothingTold() {
        EDGE.about("promise 28, nothing told of him");
        VerdictFirst x = Check.ruledBy("hides kind=1;");
        x.witness(1, 0, 1, 0);
        x.witness(1, 0, 1, 0);
        EDGE.due("nothing at all", x.kinds(0), 15);
        x.tell(1, 0, true);
        EDGE.due("of another", x.kinds(0), 15);
        EDGE.due("of him", x.kinds(1), 13);
    }

    // "by which KINDS of his (0 .. 3 ..)"
    private static void kindsEach() {
        EDGE.about("promise 28, each kind");
        for (int kind = 0; kind <= 3; kind++) {
            VerdictFirst x = Check.ruledBy("adds kind=" + kind + " and fact=7;");
            x.witness(0, 2, 1, 0);
            x.witness(0, 2, 1, 0);
            x.tell(0, 7, true);
            x.tell(1, 7, false);
            EDGE.due("he says", x.kinds(0), 1 << kind);
            EDGE.due("he doesn't", x.kinds(1), 15 - (1 << kind));
            EDGE.due("his kind stays", x.of(0, 0), kind == 2 ? 128 : 0);
            x.tell(0, 7, false);
            EDGE.due("against one another", x.kinds(0), 0);
        }
        VerdictFirst four = Check.ruledBy("adds kind>3 and fact=7 or kind<0;");
        four.witness(0, 0, 1, 0);
        four.tell(0, 7, true);
        EDGE.due("no kind beside", four.kinds(0), 0);
    }

    private static void kindsOfFirstAndLastFact() {
        EDGE.about("promise 28, facts");
        for (int fact = 0; fact < 16; fact++) {
            VerdictFirst x = Check.ruledBy("hides kind=3 and fact=" + fact + ";");
            x.witness(1 << fact, 0, 1, 0);
            for (int other = 0; other < 16; other++) {
                if (other != fact) {
                    x.tell(0, other, false);
                }
            }
            EDGE.due("the others", x.kinds(0), 15);
            x.tell(0, fact, true);
            EDGE.due("fact " + fact, x.kinds(0), 7);
        }
    }

    private static void kindsByTheTwentieth() {
        EDGE.about("promise 28, the twentieth");
        VerdictFirst x = Courts.row(1);
        for (int i = 0; i < 19; i++) {
            x.tell(0, 0, true);
        }
        EDGE.due("nineteen that are so", x.kinds(0), 15);
        x.tell(0, 0, false);
        EDGE.due("the twentieth isn't", x.kinds(0), 0);
        VerdictFirst first = Courts.row(1);
        first.tell(0, 0, false);
        for (int i = 0; i < 19; i++) {
            first.tell(0, 0, true);
        }
        EDGE.due("the first isn't", first.kinds(0), 0);
    }

    // "(.. else as he is)", "would be so now"
    private static void kindsElseAsHeIs() {
        EDGE.about("promise 28, as he is");
        VerdictFirst x = Check.ruledBy("hides kind=1 and who=1 and strength=9 and hour=23;");
        x.witness(1, 0, 9, 0);
        x.witness(1, 0, 9, 0);
        x.witness(1, 0, 8, 0);
        for (int i = 0; i < 3; i++) {
            x.tell(i, 0, false);
        }
        EDGE.due("at 0", x.kinds(1), 0);
        x.hour(23);
        EDGE.due("another", x.kinds(0), 0);
        EDGE.due("he", x.kinds(1), 2);
        EDGE.due("a weaker one", x.kinds(2), 0);
        x.strike(1, true);
        EDGE.due("struck", x.kinds(1), 2);
    }

    // "X is SEED (0 .. 9999) * 17 + 9; n times (1 .. 30)"
    private static void drawsRange() {
        EDGE.about("promise 29");
        for (int what = 0; what <= 1; what++) {
            int asked = what;
            EDGE.range("SEED, " + what, 0, 9999, Courts::carried, (x, v) -> x.draws(v, 5, asked), NONE);
            EDGE.range("n, " + what, 1, 30, Courts::carried, (x, v) -> x.draws(3, v, asked), NONE);
        }
        EDGE.range("what", 0, 1, Courts::carried, (x, v) -> x.draws(3, 5, v), NONE);
        EDGE.due("once", Courts.carried().draws(0, 1, 0), 1);
        EDGE.due("thirty times", Courts.carried().draws(9999, 30, 0), 30);
    }

    // "and if all CHANCES are 0"
    private static void drawsOfNoChance() {
        EDGE.about("promise 29, no chances");
        EDGE.refused(VerdictFirst::new, "no verdicts", x -> x.draws(0, 1, 0), NONE);
        VerdictFirst x = new VerdictFirst();
        x.witness(1, 0, 1, 4);
        for (int i = 0; i < 5; i++) {
            x.verdict(0, 1, 0);
            EDGE.due("all are 0", x.draws(0, 1, 0), NONE);
            EDGE.due("all are 0", x.draws(0, 1, 1), NONE);
        }
        x.verdict(0, 1, 1);
        EDGE.due("one is 1", x.draws(0, 30, 0), 30);
        EDGE.due("one is 1", x.draws(0, 30, 1), 120);
    }

    /** Verdicts of these chances, each by a witness of its own whose price is 1, 10 or 40 and so on. */
    private static VerdictFirst chances(int... chances) {
        int[] prices = {1, 10, 40, 70, 90, 99};
        VerdictFirst x = new VerdictFirst();
        for (int i = 0; i < chances.length; i++) {
            x.witness(1 << i, 0, 1, prices[i]);
            x.verdict(i, 1, chances[i]);
        }
        return x;
    }

    // "a VERDICT by X mod all CHANCES together (by number)": X is 9 at first with SEED 0.
    private static void drawnByNumber() {
        EDGE.about("promise 29, by number");
        EDGE.due("lot 9 of 10 and 10", chances(10, 10).draws(0, 1, 1), 1);
        EDGE.due("lot 9 of 9 and 11", chances(9, 11).draws(0, 1, 1), 10);
        EDGE.due("lot 9 of 9, 0 and 11", chances(9, 0, 11).draws(0, 1, 1), 40);
        EDGE.due("lot 9 of 0 and 20", chances(0, 20).draws(0, 1, 1), 10);
        EDGE.due("lot 9 of 9 and 1", chances(9, 1).draws(0, 1, 1), 10);
        EDGE.due("lot 0 of 9", chances(9).draws(0, 1, 1), 1);
        EDGE.due("lot 0 of 1 and 8", chances(1, 8).draws(0, 1, 1), 1);
        EDGE.due("lot 1 of 1 and 7", chances(1, 7).draws(0, 1, 1), 10);
        EDGE.due("lot 1 of 2 and 6", chances(2, 6).draws(0, 1, 1), 1);
    }

    private static void drawnByTheLastLot() {
        EDGE.about("promise 29, the last lot");
        // X is 33 * 17 + 9 = 570 at first.
        EDGE.due("lot 570 of 571", chances(99, 99, 99, 99, 99, 76).draws(33, 1, 1), 99);
        EDGE.due("lot 570 of 594", chances(99, 99, 99, 99, 99, 99).draws(33, 1, 1), 99);
        EDGE.due("lot 0 of 570", chances(99, 99, 99, 99, 99, 75).draws(33, 1, 1), 1);
        EDGE.due("lot 570 of 571, the last of 99", chances(99, 99, 99, 99, 76, 99).draws(33, 1, 1), 99);
    }

    // "X being (X * 199 + 47) mod 30113 then"
    private static void drawsOfThirty() {
        EDGE.about("promise 29, thirty");
        int[] prices = {1, 10, 40, 70, 90, 99};
        int[] chances = {99, 99, 99, 99, 99, 99};
        VerdictFirst x = chances(chances);
        for (int seed : new int[] {0, 1, 4711, 9998, 9999}) {
            long lot = seed * 17L + 9;
            int sum = 0;
            for (int n = 1; n <= 30; n++) {
                sum += prices[(int) (lot % 594 / 99)];
                lot = (lot * 199 + 47) % 30113;
                EDGE.due("seed " + seed + ", " + n, x.draws(seed, n, 1), sum);
            }
            EDGE.due("seed " + seed + ", how many", x.draws(seed, 30, 0), 30);
        }
    }

    // "how many have a LEAST, and all of these together"
    private static void drawsWithoutALeast() {
        EDGE.about("promise 29, without a least");
        VerdictFirst x = new VerdictFirst();
        x.verdict(0, 1, 9);
        EDGE.due("none", x.draws(0, 30, 0), 0);
        EDGE.due("none", x.draws(0, 30, 1), 0);
        x.witness(1, 0, 1, 0);
        EDGE.due("for nothing", x.draws(0, 30, 0), 30);
        EDGE.due("for nothing", x.draws(0, 30, 1), 0);
        VerdictFirst half = chances(9, 11);
        half.strike(1, true);
        EDGE.due("lot 9 has none", half.draws(0, 1, 0), 0);
        EDGE.due("lot 9 has none", half.draws(0, 1, 1), 0);
        half.strike(1, false);
        half.strike(0, true);
        EDGE.due("lot 9 has one", half.draws(0, 1, 0), 1);
        EDGE.due("by bending too", Courts.barred().draws(0, 30, 1), 210);
    }

    private static void drawsOfTheDearest() {
        EDGE.about("promise 29, the dearest");
        VerdictFirst x = Check.ruledBy("fee 9999;rule 15 worth 1 bend 0 by 0,1,2,3,4,5,6,7,8,9;");
        for (int i = 0; i < 10; i++) {
            x.witness(1 << i, 0, 1, 0);
        }
        x.verdict(15, 1, 1);
        EDGE.due("thirty times ten fees of 9999", x.draws(9999, 30, 1), 2999700);
    }

    private static void imageOfNothing() {
        EDGE.about("promises 30 and 31, nothing");
        VerdictFirst x = new VerdictFirst();
        EDGE.due("image()", x.image(), 0);
        x.witness(1, 0, 1, 0);
        EDGE.due("back()", x.back(), 0);
        EDGE.due("about(0)", x.about(0), 0);
    }

    // "how many WITNESSES there are"
    private static void imageOfAll() {
        EDGE.about("promises 30 and 31, all");
        VerdictFirst x = Courts.full();
        EDGE.due("image()", x.image(), 10);
        x.rise();
        x.hour(0);
        x.by(NONE);
        for (int i = 0; i < 10; i++) {
            x.strike(i, true);
        }
        EDGE.due("back()", x.back(), 10);
        VerdictFirst same = Courts.full();
        same.image();
        EDGE.due("all is so again", Edge.picture(x).equals(Edge.picture(same)), true);
        VerdictFirst unused = Courts.busy();
        unused.image();
        unused.back();
        VerdictFirst one = Courts.busy();
        one.image();
        EDGE.due("back at once changes nothing", Edge.picture(unused).equals(Edge.picture(one)), true);
        VerdictFirst fewer = Courts.row(10);
        EDGE.due("back to none", fewer.back(), 0);
        EDGE.due("the next is the first again", fewer.witness(2, 0, 1, 0), 0);
        EDGE.due("he says his own", fewer.of(0, 0), 2);
    }

    private static VerdictFirst imaged() {
        VerdictFirst x = Courts.busy();
        x.image();
        return x;
    }

    private static void backFrom(String name, java.util.function.Consumer<VerdictFirst> change) {
        VerdictFirst x = imaged();
        change.accept(x);
        EDGE.due(name + ", back()", x.back(), 4);
        EDGE.due(name + " is so again", Edge.picture(x).equals(Edge.picture(imaged())), true);
    }

    // "AN IMAGE: all as it is"
    private static void imageOfEachThing() {
        EDGE.about("promise 31, each thing");
        backFrom("a witness", x -> x.witness(65535, 3, 9, 99));
        backFrom("a verdict", x -> x.verdict(15, 9, 99));
        backFrom("the hour", x -> x.hour(23));
        backFrom("a strike", x -> x.strike(0, true));
        backFrom("a strike less", x -> x.strike(2, false));
        backFrom("the text", x -> x.by(1));
        backFrom("no text", x -> x.by(NONE));
        backFrom("one heard", x -> x.hear(0));
        backFrom("nobody heard", VerdictFirst::rise);
        backFrom("others heard", x -> {
            x.rise();
            x.hour(1);
            x.hear(0);
            x.hear(3);
        });
        backFrom("a saying", x -> x.tell(1, 15, true));
        backFrom("all at once", x -> {
            x.witness(1, 1, 1, 1);
            x.verdict(1, 1, 1);
            x.hour(0);
            x.strike(1, true);
            x.by(1);
            x.rise();
            x.tell(0, 1, true);
        });
    }

    // "but the tape"
    private static void imageWithoutTheTape() {
        EDGE.about("promise 31, the tape");
        VerdictFirst x = new VerdictFirst();
        x.witness(0, 0, 1, 50);
        Check.feed(x, "fee 36;");
        x.image();
        Check.feed(x, "fee 37; ");
        x.back();
        EDGE.due("about(7)", x.about(7), 8);
        EDGE.due("text()", x.text(), 0);
        x.by(0);
        EDGE.due("of(0, 1)", x.of(0, 1), 37);
        x.back();
        EDGE.due("read, so empty", x.about(7), 0);
    }

    // "and the latest FAULT"
    private static void imageWithoutTheFault() {
        EDGE.about("promise 31, the fault");
        VerdictFirst x = new VerdictFirst();
        x.image();
        Check.read(x, "fee 1;fee");
        x.back();
        EDGE.due("fault(0)", x.fault(0), 4);
        EDGE.due("fault(1)", x.fault(1), 6);
        x.image();
        Check.read(x, "");
        x.back();
        EDGE.due("fault(0)", x.fault(0), 0);
        EDGE.due("fault(1)", x.fault(1), NONE);
        EDGE.due("about(3)", x.about(3), 0);
    }

    // "(it stays)"
    private static void theImageStays() {
        EDGE.about("promise 31, it stays");
        VerdictFirst x = Courts.busy();
        for (int i = 0; i < 3; i++) {
            EDGE.due("back()", x.back(), 4);
            EDGE.due("about(5)", x.about(5), 1);
            EDGE.due("about(2)", x.about(2), 0);
            x.hear(0);
            x.hour(9);
        }
        EDGE.due("image()", x.image(), 4);
        x.rise();
        EDGE.due("back()", x.back(), 4);
        EDGE.due("the latest image", x.about(5), 2);
        EDGE.due("the latest image", x.about(2), 9);
    }

    private static void textsBehindTheImage() {
        EDGE.about("promise 31, texts");
        VerdictFirst x = new VerdictFirst();
        x.witness(0, 0, 1, 50);
        Check.read(x, "fee 30;");
        x.by(0);
        x.image();
        for (int round = 1; round < 4; round++) {
            for (int number = 1; number < 4; number++) {
                EDGE.due("its number", Check.read(x, "fee " + (10 * round + number) + ";"), number);
            }
            EDGE.due("the fifth", x.text(), NONE);
            for (int number = 1; number < 4; number++) {
                x.by(number);
                EDGE.due("of(0, 1)", x.of(0, 1), 10 * round + number);
            }
            x.back();
            EDGE.due("about(3)", x.about(3), 1);
            EDGE.due("about(4)", x.about(4), 0);
            EDGE.due("of(0, 1)", x.of(0, 1), 30);
            EDGE.due("by(1)", x.by(1), false);
        }
    }

    // "-2 for others"
    private static void aboutRange() {
        EDGE.about("promise 32");
        EDGE.range("what", 0, 8, Courts::theft, VerdictFirst::about, -2);
        for (int what = 9; what <= 40; what++) {
            boolean told = what >= 10 && what < 40 && what % 10 < 2;
            EDGE.due("about(" + what + ") is told with two heard", Courts.busy().about(what) != -2, told);
        }
        for (int what : new int[] {-1, -2, -8, -10, -20, -30, -39, 9, 40, 41, 50, 100, 110, 120, 130, 138, 266, 65546}) {
            EDGE.refused(Courts::full, "about(" + what + ")", x -> x.about(what), -2);
            EDGE.refused(VerdictFirst::new, "about(" + what + ") of a new one", x -> x.about(what), -2);
        }
    }

    // "10 + i: the i-th who was HEARD, 20 + i: what he SAID, 30 + i: his FEE"
    private static void aboutTen() {
        EDGE.about("promise 32, ten heard");
        VerdictFirst x = Check.ruledBy("fee 100+many;");
        for (int i = 0; i < 10; i++) {
            x.witness(1 << i, 0, 1, 0);
        }
        for (int i = 0; i < 10; i++) {
            for (int row = 10; row <= 30; row += 10) {
                EDGE.due("about(" + (row + i) + ") ahead of him", x.about(row + i), -2);
            }
            int who = (3 * i + 7) % 10;
            x.hear(who);
            EDGE.due("who", x.about(10 + i), who);
            EDGE.due("he said", x.about(20 + i), 1 << who);
            EDGE.due("his fee", x.about(30 + i), 100 + i);
        }
        EDGE.due("about(9)", x.about(9), -2);
        EDGE.due("about(40)", x.about(40), -2);
        EDGE.due("the first stays", x.about(10), 7);
    }

    // "4 THE TEXT (NONE)", "8 RULES of THE TEXT (0 without)"
    private static void aboutWithoutAText() {
        EDGE.about("promise 32, without a text");
        VerdictFirst x = Courts.theft();
        EDGE.due("about(8)", x.about(8), 3);
        x.by(NONE);
        EDGE.due("about(4)", x.about(4), NONE);
        EDGE.due("about(8)", x.about(8), 0);
        x.by(Check.read(x, "fee 1;hides 1=1;adds 1=1;"));
        EDGE.due("a text without rules", x.about(8), 0);
        EDGE.due("about(4)", x.about(4), 1);
        x.by(Check.read(x, "rule0worth1bend1;".repeat(16)));
        EDGE.due("one of sixteen", x.about(8), 16);
    }

    private static void aboutGreatest() {
        EDGE.about("promise 32, all that there can be");
        VerdictFirst x = Courts.full();
        x.by(3);
        int[] want = {10, 6, 23, 4, 3, 10, 20, 300, 0};
        for (int what = 0; what < want.length; what++) {
            EDGE.due("about(" + what + ")", x.about(what), want[what]);
        }
        VerdictFirst all = Check.ruledBy("fee 9999;adds 1=1;");
        all.witness(0, 0, 1, 0);
        all.hear(0);
        EDGE.due("all facts said", all.about(20), 65535);
        EDGE.due("the greatest fee", all.about(30), 9999);
    }
}
