/** Courts that the tests of edges begin with, the same at each call. */
final class Courts {
    static final String THEFT =
            "rule 3 worth 5 bend 4 by 0,1 unless 2;rule 4 worth 9 bend 9 by 3;rule 5 worth 2 bend 0 unless 4;";

    private Courts() {
    }

    /** Four witnesses of facts 0 .. 3 and five verdicts under the text of the theft. */
    static VerdictFirst theft() {
        VerdictFirst x = Check.ruledBy(THEFT);
        x.witness(1, 0, 6, 3);
        x.witness(2, 1, 4, 5);
        x.witness(4, 0, 9, 1);
        x.witness(8, 2, 3, 20);
        x.verdict(4, 4, 10);
        x.verdict(5, 1, 0);
        x.verdict(3, 3, 5);
        x.verdict(9, 1, 1);
        x.verdict(4, 3, 0);
        return x;
    }

    /** The theft in the midst of its hearing: something of all that a court can hold, and an image of less. */
    static VerdictFirst busy() {
        VerdictFirst x = theft();
        x.hear(3);
        x.image();
        x.hour(5);
        x.strike(2, true);
        x.hear(1);
        x.tell(0, 0, true);
        x.tell(1, 2, false);
        Check.read(x, "fee 9 9;");
        Check.read(x, "fee price+1;hides fact=1;");
        Check.feed(x, "fee 37;");
        return x;
    }

    /** All that there can be of everything; its image has a text less, so that the tape can be read there. */
    static VerdictFirst full() {
        VerdictFirst x = new VerdictFirst();
        for (int i = 0; i < 10; i++) {
            x.witness(1 << i | 1 << 15, i % 4, 1 + i % 9, i + 90);
        }
        for (int i = 0; i < 6; i++) {
            x.verdict(i, i + 1, i + 94);
        }
        Check.read(x, "fee price+many;");
        Check.read(x, "hides kind=1;");
        Check.read(x, "rule 3 worth 2 bend 1 by 2;");
        x.by(0);
        x.image();
        Check.read(x, "adds kind=1 and fact=14;");
        x.hour(23);
        for (int i = 9; i >= 0; i--) {
            x.hear(i);
        }
        for (int i = 0; i < 20; i++) {
            x.tell(i % 10, i % 16, i % 3 == 0);
        }
        Check.feed(x, "fee 37;" + " ".repeat(293));
        return x;
    }

    /** Four witnesses and five verdicts that follow by every set, by two rules one behind the other. */
    static VerdictFirst carried() {
        return alike("rule 0 worth 9 bend 3;rule 1 worth 9 bend 7 by 0;");
    }

    /** As carried, but that the verdicts follow by no set, unless rule 1 is bent. */
    static VerdictFirst barred() {
        return alike("rule 0 worth 9 bend 3;rule 1 worth 9 bend 7 unless 0;");
    }

    private static VerdictFirst alike(String text) {
        VerdictFirst x = Check.ruledBy(text);
        for (int i = 0; i < 4; i++) {
            x.witness(4 << i, i, 1 + i, 10 + i);
        }
        for (int i = 0; i < 5; i++) {
            x.verdict(1, 1 + i, 10 * i);
        }
        return x;
    }

    /** So many witnesses who each know one fact, from 0 on, of strength 5 and price 1, and a verdict of fact 0. */
    static VerdictFirst row(int witnesses) {
        VerdictFirst x = new VerdictFirst();
        for (int i = 0; i < witnesses; i++) {
            x.witness(1 << i, 0, 5, 1);
        }
        x.verdict(0, 5, 1);
        return x;
    }
}
