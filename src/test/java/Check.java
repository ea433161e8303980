/** What the tests share: counting wrong answers, and feeding a text. */
class Check {
    private int wrong = 0;
    private int asked = 0;
    private String about = "";

    void about(String what) {
        about = what;
    }

    void due(String call, long got, long want) {
        asked++;
        if (got != want) {
            wrong++;
            System.out.println(about + ": " + call + " answered " + got + ", due is " + want);
        }
    }

    void due(String call, boolean got, boolean want) {
        due(call, got ? 1 : 0, want ? 1 : 0);
    }

    /** A text alone on the tape of a new object has this fault at this place, 0 and -1 if it has none. */
    void fault(String text, int fault, int place) {
        VerdictFirst x = new VerdictFirst();
        about("\"" + text.replace('\n', '~') + "\"");
        due("text()", read(x, text), fault == 0 ? 0 : -1);
        due("fault(0)", x.fault(0), fault);
        due("fault(1)", x.fault(1), place);
        due("about(7)", x.about(7), 0);
        due("about(3)", x.about(3), fault == 0 ? 1 : 0);
    }

    void fine(String text) {
        fault(text, 0, -1);
    }

    void end() {
        System.out.println(asked + " answers, " + wrong + " wrong");
        System.exit(wrong == 0 && asked > 0 ? 0 : 1);
    }

    /** Puts a text of at most 300 signs on the tape, alone. */
    static void feed(VerdictFirst x, String text) {
        x.end(0);
        for (int i = 0; i < text.length(); i += 20) {
            x.feed(word(text, i), word(text, i + 4), word(text, i + 8), word(text, i + 12), word(text, i + 16));
        }
        x.end(text.length());
    }

    static int read(VerdictFirst x, String text) {
        feed(x, text);
        return x.text();
    }

    /** A new object that is ruled by a text. */
    static VerdictFirst ruledBy(String text) {
        VerdictFirst x = new VerdictFirst();
        if (!x.by(read(x, text)) || x.about(4) != 0) {
            throw new IllegalStateException("has a fault: " + text);
        }
        return x;
    }

    /** What a witness of number 0, kind 2, strength 7 and price 50 takes by a sum. */
    static int fee(String sum) {
        VerdictFirst x = ruledBy("fee " + sum + ";");
        x.witness(0, 2, 7, 50);
        return x.of(0, 1);
    }

    /** The facts that the same one adds by what is asked. */
    static int added(String asked) {
        VerdictFirst x = ruledBy("adds " + asked + ";");
        x.witness(0, 2, 7, 50);
        return x.of(0, 0);
    }

    private static int word(String text, int start) {
        int word = 0;
        for (int i = start; i < start + 4; i++) {
            word = word << 8 | (i < text.length() ? text.charAt(i) & 255 : 0);
        }
        return word;
    }
}
