/** The edges of promises 6 to 10: the tape, its end, texts, their faults and the text that rules. */
public final class EdgeTapeTest {
    private static final Edge EDGE = new Edge();
    private static final int NONE = Edge.NONE;
    private static final int BLANKS = 0x20202020;

    private EdgeTapeTest() {
    }

    public static void main(String[] args) {
        placesOfBytes();
        highBytes();
        fifteenFeeds();
        feedAt280And281();
        refusedFeedBringsNone();
        endRange();
        endOfNothing();
        endOfAll();
        endCuts();
        endThenFeed();
        endWithinAToken();
        emptyTapeIsAText();
        textEmptiesTheTape();
        faultEmptiesTheTape();
        fourTexts();
        fifthKeepsTheTape();
        fifthIsNotRead();
        textOf300();
        textBehindALongerOne();
        textBehindAFault();
        textDoesNotRule();
        faultAheadOfAny();
        faultRange();
        faultWithout();
        faultPlaces();
        faultOfTheLatest();
        byRange();
        byNothing();
        byFour();
        byAgainstTheImage();
        EDGE.end();
    }

    private static VerdictFirst withTape(String tape) {
        VerdictFirst x = new VerdictFirst();
        x.witness(0, 0, 1, 50);
        Check.feed(x, tape);
        return x;
    }

    private static void feedBlanks(VerdictFirst x, int times) {
        for (int i = 0; i < times; i++) {
            x.feed(BLANKS, BLANKS, BLANKS, BLANKS, BLANKS);
        }
    }

    /** The tape is read and rules: what the one witness of price 50 takes then, NONE if it has a fault. */
    private static int feeByTape(VerdictFirst x) {
        int number = x.text();
        return number != NONE && x.by(number) ? x.of(0, 1) : NONE;
    }

    // "Twenty bytes come behind the tape, the highest of a first"
    private static void placesOfBytes() {
        EDGE.about("promise 6, the order of bytes");
        for (int place = 0; place < 20; place++) {
            int[] words = {BLANKS, BLANKS, BLANKS, BLANKS, BLANKS};
            words[place / 4] ^= 1 << 8 * (3 - place % 4);
            VerdictFirst x = new VerdictFirst();
            EDGE.due("feed", x.feed(words[0], words[1], words[2], words[3], words[4]), 20);
            EDGE.due("text()", x.text(), NONE);
            EDGE.due("the place of a 33 at " + place, x.fault(1), place);
        }
    }

    private static void highBytes() {
        EDGE.about("promise 6, bytes above 127");
        int[] words = {0x20202080, 0x202020ff, 0x202020a0, 0x2020208a, 0x80202020, 0xa0202020, 0xff202020, 0x8a202020};
        int[] places = {3, 3, 3, 3, 0, 0, 0, 0};
        for (int i = 0; i < words.length; i++) {
            VerdictFirst x = new VerdictFirst();
            x.feed(words[i], BLANKS, BLANKS, BLANKS, BLANKS);
            EDGE.due("text()", x.text(), NONE);
            EDGE.due("its place", x.fault(1), places[i]);
        }
    }

    // "how many it has. NONE, and none come, if there would be more than 300"
    private static void fifteenFeeds() {
        EDGE.about("promise 6, 300 bytes");
        VerdictFirst x = new VerdictFirst();
        for (int i = 1; i <= 15; i++) {
            EDGE.due("feed " + i, x.feed(0, 0, 0, 0, 0), 20 * i);
            EDGE.due("about(7)", x.about(7), 20 * i);
        }
        EDGE.refused(Courts::full, "feed 16", y -> y.feed(BLANKS, BLANKS, BLANKS, BLANKS, BLANKS), NONE);
        EDGE.refused(Courts::full, "feed 16 of other bytes", y -> y.feed(1, 2, 3, 4, 5), NONE);
    }

    private static void feedAt280And281() {
        EDGE.about("promise 6, at 280 and 281");
        VerdictFirst x = withTape("fee 37;");
        x.end(0);
        feedBlanks(x, 15);
        EDGE.due("end(280)", x.end(280), 280);
        EDGE.due("the last that comes", x.feed(0x66656520, 0x33373b20, BLANKS, BLANKS, BLANKS), 300);
        EDGE.due("it came", feeByTape(x), 37);
        EDGE.refused(() -> withTape("fee 37;" + " ".repeat(274)), "feed at 281", y -> y.feed(1, 2, 3, 4, 5), NONE);
        EDGE.refused(() -> withTape("fee 37;" + " ".repeat(292)), "feed at 299", y -> y.feed(1, 2, 3, 4, 5), NONE);
    }

    private static void refusedFeedBringsNone() {
        EDGE.about("promise 6, none come");
        VerdictFirst x = withTape("fee 37;" + " ".repeat(274));
        EDGE.due("feed at 281", x.feed(1, 2, 3, 4, 5), NONE);
        EDGE.due("about(7)", x.about(7), 281);
        EDGE.due("the tape as before", feeByTape(x), 37);
        EDGE.due("and empty then", x.feed(1, 2, 3, 4, 5), 20);
    }

    // "n. NONE, and nothing is done, if it has not so many, or n is below 0"
    private static void endRange() {
        EDGE.about("promise 7");
        EDGE.range("n of 7", 0, 7, Courts::busy, VerdictFirst::end, NONE);
        EDGE.range("n of 20", 0, 20, () -> withTape("fee 37;" + " ".repeat(13)), VerdictFirst::end, NONE);
        EDGE.range("n of 300", 0, 300, Courts::full, VerdictFirst::end, NONE);
        for (int n : new int[] {300, 299, 1, 0}) {
            VerdictFirst x = Courts.full();
            EDGE.due("end(" + n + ")", x.end(n), n);
            EDGE.due("about(7)", x.about(7), n);
        }
    }

    private static void endOfNothing() {
        EDGE.about("promise 7, an empty tape");
        EDGE.range("n", 0, 0, VerdictFirst::new, VerdictFirst::end, NONE);
        VerdictFirst x = new VerdictFirst();
        EDGE.due("end(0)", x.end(0), 0);
        EDGE.due("about(7)", x.about(7), 0);
    }

    private static void endOfAll() {
        EDGE.about("promise 7, all that it has");
        VerdictFirst x = withTape("fee 37;");
        EDGE.due("end(7)", x.end(7), 7);
        EDGE.due("all is there", feeByTape(x), 37);
    }

    // "The tape has its first n bytes alone"
    private static void endCuts() {
        EDGE.about("promise 7, the first n");
        VerdictFirst x = withTape("fee 37;!");
        EDGE.due("end(7)", x.end(7), 7);
        EDGE.due("what is behind can't come again", x.end(8), NONE);
        EDGE.due("the first 7", feeByTape(x), 37);
        VerdictFirst all = withTape("fee 37;!");
        EDGE.due("end(8)", all.end(8), 8);
        EDGE.due("with the eighth", feeByTape(all), NONE);
        EDGE.due("its place", all.fault(1), 7);
        VerdictFirst none = withTape("!");
        EDGE.due("end(0)", none.end(0), 0);
        EDGE.due("nothing of it", feeByTape(none), 50);
    }

    private static void endThenFeed() {
        EDGE.about("promise 7, what comes then");
        VerdictFirst x = withTape("fee 3!!!!");
        x.end(5);
        EDGE.due("feed", x.feed(0x373b2020, BLANKS, BLANKS, BLANKS, BLANKS), 25);
        EDGE.due("it comes behind the fifth", feeByTape(x), 37);
    }

    private static void endWithin(String tape, int n, int fault, int place) {
        VerdictFirst x = withTape(tape);
        x.end(n);
        EDGE.due("text() of " + n + " of " + tape, x.text(), fault == 0 ? 0 : NONE);
        EDGE.due("fault(0)", x.fault(0), fault);
        EDGE.due("fault(1)", x.fault(1), place);
    }

    // What was cut off lies behind the end of a word, a number and a sign: it mustn't be read with them.
    private static void endWithinAToken() {
        EDGE.about("promise 7, within a token");
        endWithin("fee 1;", 2, 1, 0);
        endWithin("fee who;", 6, 1, 4);
        endWithin("fee 12;", 5, 1, 5);
        endWithin("fee 10000;", 8, 1, 8);
        endWithin("hides 1<=1;", 8, 1, 8);
        endWithin("hides 1<=1;", 9, 1, 9);
        endWithin("rule 1 worth 1 bend 100;", 22, 1, 22);
        endWithin("fee 1;fee 1;", 6, 0, NONE);
        endWithin("fee 1;fee 1;", 8, 1, 6);
        endWithin("fee 1;fee 1;", 9, 4, 6);
    }

    // "The tape (empty then) is a TEXT: its number"
    private static void emptyTapeIsAText() {
        EDGE.about("promise 8, an empty tape");
        VerdictFirst x = withTape("");
        EDGE.due("text()", x.text(), 0);
        EDGE.due("about(3)", x.about(3), 1);
        EDGE.due("fault(0)", x.fault(0), 0);
        EDGE.due("fault(1)", x.fault(1), NONE);
        EDGE.due("by(0)", x.by(0), true);
        EDGE.due("about(8)", x.about(8), 0);
        EDGE.due("the price", x.of(0, 1), 50);
    }

    private static void textEmptiesTheTape() {
        EDGE.about("promise 8, empty then");
        VerdictFirst x = withTape("fee 37;");
        EDGE.due("text()", x.text(), 0);
        EDGE.due("about(7)", x.about(7), 0);
        EDGE.due("end(1)", x.end(1), NONE);
        EDGE.due("the next has nothing of it", feeByTape(x), 50);
    }

    // "NONE: it has a FAULT"
    private static void faultEmptiesTheTape() {
        EDGE.about("promise 8, a fault");
        VerdictFirst x = withTape("fee 37;");
        x.by(x.text());
        Check.feed(x, "fee 38");
        EDGE.due("text()", x.text(), NONE);
        EDGE.due("about(7)", x.about(7), 0);
        EDGE.due("no text more", x.about(3), 1);
        EDGE.due("the text", x.about(4), 0);
        EDGE.due("it rules as before", x.of(0, 1), 37);
        EDGE.due("by(1)", x.by(1), false);
        EDGE.due("the next has its number", Check.read(x, "fee 39;"), 1);
        EDGE.due("the first as before", x.of(0, 1), 37);
        x.by(1);
        EDGE.due("the next", x.of(0, 1), 39);
    }

    // "or (the tape stays) there are 4"
    private static void fourTexts() {
        EDGE.about("promise 8, four");
        VerdictFirst x = withTape("");
        for (int i = 0; i < 4; i++) {
            EDGE.due("its number", Check.read(x, "fee " + (60 + i) + ";"), i);
            EDGE.due("so many", x.about(3), i + 1);
        }
        for (int i = 0; i < 4; i++) {
            EDGE.due("by(" + i + ")", x.by(i), true);
            EDGE.due("of(0, 1)", x.of(0, 1), 60 + i);
        }
        EDGE.refused(Courts::full, "the fifth", VerdictFirst::text, NONE);
    }

    private static void fifthKeepsTheTape() {
        EDGE.about("promise 8, the tape stays");
        VerdictFirst x = withTape("");
        x.image();
        for (int i = 0; i < 4; i++) {
            Check.read(x, "");
        }
        EDGE.due("the fifth of nothing", x.text(), NONE);
        EDGE.due("about(3)", x.about(3), 4);
        Check.feed(x, "fee 37;");
        EDGE.due("the fifth", x.text(), NONE);
        EDGE.due("about(7)", x.about(7), 7);
        EDGE.due("about(3)", x.about(3), 4);
        x.back();
        EDGE.due("it can be read where there are fewer", feeByTape(x), 37);
    }

    private static void fifthIsNotRead() {
        EDGE.about("promise 8, the fifth isn't read");
        VerdictFirst x = withTape("");
        for (int i = 0; i < 4; i++) {
            Check.read(x, "");
        }
        EDGE.due("with a fault", Check.read(x, "fee !"), NONE);
        EDGE.due("its tape stays", x.about(7), 5);
        EDGE.due("fault(0)", x.fault(0), 0);
        EDGE.due("fault(1)", x.fault(1), NONE);
    }

    // "TEXTS 0 .. 3: of up to 300 bytes"
    private static void textOf300() {
        EDGE.about("promise 8, 300 bytes");
        VerdictFirst x = withTape("fee " + "0+".repeat(146) + "37 ;");
        EDGE.due("about(7)", x.about(7), 300);
        EDGE.due("all are read", feeByTape(x), 37);
        VerdictFirst last = withTape("fee 37;" + " ".repeat(292) + "!");
        EDGE.due("the last is read", last.text(), NONE);
        EDGE.due("its place", last.fault(1), 299);
        VerdictFirst full = withTape("");
        for (int i = 0; i < 4; i++) {
            EDGE.due("each of the four", Check.read(full, "fee " + "1+".repeat(147) + i + ";"), i);
        }
        for (int i = 0; i < 4; i++) {
            full.by(i);
            EDGE.due("of(0, 1)", full.of(0, 1), 147 + i);
        }
    }

    /** A text that was read last is by itself, whatever was read ahead of it. */
    private static void behind(String ahead, String text, int fee, int says) {
        VerdictFirst x = new VerdictFirst();
        x.witness(0x00ff, 0, 1, 50);
        Check.read(x, ahead);
        EDGE.due("by(" + text + ")", x.by(Check.read(x, text)), true);
        EDGE.due("its fee", x.of(0, 1), fee);
        EDGE.due("what he says", x.of(0, 0), says);
    }

    private static void textBehindALongerOne() {
        EDGE.about("promise 8, behind a longer text");
        for (String ahead : new String[] {"fee 1-(2-(3-(4-5)));", "fee -----5;", "fee 1+2*3*4*5;",
            "hides not not not not not fact<4;", "adds not not not not not fact<4;fee 9-(8-(7-6));",
            "fee 1;hides 1=1;adds 1=1;rule 3 worth 1 bend 1;"}) {
            behind(ahead, "", 50, 0x00ff);
            behind(ahead, "fee 7;", 7, 0x00ff);
            behind(ahead, "fee 9-2;", 7, 0x00ff);
            behind(ahead, "hides fact=0;", 50, 0x00fe);
            behind(ahead, "adds fact=15;", 50, 0x80ff);
            behind(ahead, "adds fact=15;hides fact=0;fee 3;", 3, 0x80fe);
        }
    }

    private static void textBehindAFault() {
        EDGE.about("promise 8, behind a fault");
        for (String ahead : new String[] {"fee 1-(2-(3-(4-", "fee -----5;fee", "hides not not fact<4 or !",
            "adds 1=1;hides 1=1;fee 3;rule 16", "rule 3 worth 1 bend 1 by 3;", "rule0worth1bend1;".repeat(17)}) {
            behind(ahead, "", 50, 0x00ff);
            behind(ahead, "fee 9-2;", 7, 0x00ff);
            behind(ahead, "adds fact=15;hides fact=0;", 50, 0x80fe);
        }
    }

    // "THE TEXT (told; at first none) rules"
    private static void textDoesNotRule() {
        EDGE.about("promise 8, at first none rules");
        VerdictFirst x = withTape("fee 37;rule 0 worth 1 bend 0;");
        x.text();
        EDGE.due("about(4)", x.about(4), NONE);
        EDGE.due("about(8)", x.about(8), 0);
        EDGE.due("the price", x.of(0, 1), 50);
        EDGE.due("no rule", x.shown(0, 0), 0);
    }

    // "NONE for others, and ahead of any"
    private static void faultAheadOfAny() {
        EDGE.about("promise 9, ahead of any");
        EDGE.noRange("what", 0, VerdictFirst::new, VerdictFirst::fault, NONE);
        VerdictFirst x = withTape("fee !");
        EDGE.due("fed, not read", x.fault(0), NONE);
        EDGE.due("fed, not read", x.fault(1), NONE);
        x.image();
        x.back();
        EDGE.due("behind an image", x.fault(0), NONE);
        EDGE.due("behind an image", x.fault(1), NONE);
    }

    private static VerdictFirst withFault() {
        VerdictFirst x = Courts.theft();
        Check.read(x, "fee 1;fee 2;");
        return x;
    }

    private static void faultRange() {
        EDGE.about("promise 9");
        EDGE.range("what", 0, 1, EdgeTapeTest::withFault, VerdictFirst::fault, NONE);
        EDGE.due("0", withFault().fault(0), 4);
        EDGE.due("1", withFault().fault(1), 6);
    }

    // "0 its FAULT (0 without), 1 its place (NONE without)"
    private static void faultWithout() {
        EDGE.about("promise 9, without");
        EDGE.due("0", Courts.theft().fault(0), 0);
        EDGE.due("1", Courts.theft().fault(1), NONE);
    }

    private static void faultPlaces() {
        EDGE.about("promise 9, places");
        VerdictFirst x = new VerdictFirst();
        Check.read(x, "!");
        EDGE.due("the first byte", x.fault(1), 0);
        Check.read(x, "fee 1" + " ".repeat(294) + "!");
        EDGE.due("the last byte", x.fault(1), 299);
        Check.read(x, "fee 1" + " ".repeat(295));
        EDGE.due("the end", x.fault(1), 300);
        Check.read(x, "fee");
        EDGE.due("the end of a short one", x.fault(1), 3);
    }

    // "Of the latest text that was read"
    private static void faultOfTheLatest() {
        EDGE.about("promise 9, the latest");
        VerdictFirst x = withFault();
        Check.feed(x, "fee !");
        EDGE.due("the next is fed", x.fault(0), 4);
        x.end(0);
        EDGE.due("and gone", x.fault(1), 6);
        Check.read(x, "fee !");
        EDGE.due("the next is read", x.fault(0), 1);
        EDGE.due("the next is read", x.fault(1), 4);
        Check.read(x, "fee 1;");
        EDGE.due("one without", x.fault(0), 0);
        EDGE.due("one without", x.fault(1), NONE);
        Check.read(x, "fee 10000;");
        EDGE.due("one with", x.fault(0), 2);
        EDGE.due("the first by number stays", x.about(3), 2);
    }

    // "THE TEXT (NONE: none): true. False for others."
    private static void byRange() {
        EDGE.about("promise 10");
        EDGE.range("text of two", NONE, 1, Courts::busy, (x, v) -> Edge.bit(x.by(v)), 0);
        VerdictFirst x = Courts.busy();
        EDGE.due("by(1)", x.by(1), true);
        EDGE.due("about(4)", x.about(4), 1);
        EDGE.due("of(0, 1)", x.of(0, 1), 4);
        EDGE.due("by(2)", x.by(2), false);
        EDGE.due("about(4)", x.about(4), 1);
        EDGE.due("of(0, 1)", x.of(0, 1), 4);
        EDGE.due("by(NONE)", x.by(NONE), true);
        EDGE.due("about(4)", x.about(4), NONE);
        EDGE.due("of(0, 1)", x.of(0, 1), 3);
        EDGE.due("by(-2)", x.by(-2), false);
        EDGE.due("about(4)", x.about(4), NONE);
    }

    private static void byNothing() {
        EDGE.about("promise 10, no texts");
        EDGE.range("text", NONE, NONE, VerdictFirst::new, (x, v) -> Edge.bit(x.by(v)), 0);
    }

    private static void byFour() {
        EDGE.about("promise 10, four texts");
        EDGE.range("text", NONE, 3, Courts::full, (x, v) -> Edge.bit(x.by(v)), 0);
    }

    private static void byAgainstTheImage() {
        EDGE.about("promise 10, texts that are gone");
        VerdictFirst x = Courts.busy();
        EDGE.due("by(1)", x.by(1), true);
        x.back();
        EDGE.due("by(1)", x.by(1), false);
        EDGE.due("about(4)", x.about(4), 0);
    }
}
