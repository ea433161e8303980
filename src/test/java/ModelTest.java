import java.util.ArrayList;
import java.util.List;
import java.util.Random;

/** Long runs of calls, drawn by fixed seeds, on the class and on the model of the document side by side. */
public final class ModelTest {
    private static final int RUNS = 700;
    private static final int CALLS = 300;

    private final Random random;
    private final VerdictFirst x = new VerdictFirst();
    private final Model model = new Model();
    private final List<String> log = new ArrayList<>();
    private final Texts texts;
    private final int size;
    private final int facts;
    private boolean wrong = false;

    private ModelTest(long seed) {
        random = new Random(seed);
        // Of few facts, more is shown, carried and barred by more steps.
        facts = seed % 2 == 0 ? 7 : 16;
        texts = new Texts(random, facts);
        size = seed % 7 == 0 ? 10 : 6;
    }

    public static void main(String[] args) {
        int wrongRuns = 0;
        int[] seen = new int[40];
        for (int seed = 1; seed <= RUNS && wrongRuns < 3; seed++) {
            ModelTest run = new ModelTest(seed);
            if (!run.play(seen)) {
                wrongRuns++;
                System.out.println("run " + seed + ":");
                run.log.forEach(System.out::println);
            }
        }
        for (int i = 0; i < 32; i++) {
            if (seen[i] == 0) {
                System.out.println("no run came to call " + i);
                wrongRuns++;
            }
        }
        System.out.println(wrongRuns == 0 ? "the class answers as the model does" : "answers differ");
        System.exit(wrongRuns == 0 ? 0 : 1);
    }

    private boolean play(int[] seen) {
        setUp();
        for (int i = 0; i < CALLS && !wrong; i++) {
            int which = random.nextInt(32);
            seen[which]++;
            call(which);
        }
        return !wrong;
    }

    private void setUp() {
        int many = random.nextInt(size + 1);
        for (int i = 0; i < many; i++) {
            call(0);
        }
        call(1);
        call(1);
        call(1);
        call(6);
        call(8);
    }

    private void due(String call, int got, int want) {
        log.add("  " + call + " answered " + got + (got == want ? "" : ", due is " + want));
        wrong |= got != want;
    }

    private static int bit(boolean is) {
        return is ? 1 : 0;
    }

    /** A number of a range, now and then one just outside it or far off. */
    private int from(int low, int high) {
        int odd = random.nextInt(60);
        if (odd == 0) {
            return low - 1;
        }
        if (odd == 1) {
            return high + 1;
        }
        if (odd == 2) {
            return random.nextInt();
        }
        return low + random.nextInt(Math.max(1, high - low + 1));
    }

    private int witness() {
        return from(0, model.witnesses.size() - 1);
    }

    private int verdict() {
        return from(0, model.verdicts.size() - 1);
    }

    private int fact() {
        return random.nextInt(3) == 0 ? from(0, 15) : random.nextInt(facts);
    }

    private int set() {
        return from(0, (1 << model.witnesses.size()) - 1);
    }

    private int knows() {
        int few = 1 << random.nextInt(facts) | 1 << random.nextInt(6);
        return random.nextInt(4) == 0 ? from(0, 65535) : few;
    }

    private void call(int which) {
        switch (which) {
            case 0 -> addWitness();
            case 1 -> addVerdict();
            case 2 -> {
                int h = from(0, 23);
                due("hour(" + h + ")", bit(x.hour(h)), model.hour(h));
            }
            case 3 -> {
                int w = witness();
                boolean is = random.nextInt(3) == 0;
                due("strike(" + w + ", " + is + ")", bit(x.strike(w, is)), model.strike(w, is));
            }
            case 4 -> feed(texts.some());
            case 5 -> {
                int n = from(0, model.tape.length);
                due("end(" + n + ")", x.end(n), model.end(n));
            }
            case 6 -> {
                due("end(0)", x.end(0), model.end(0));
                feed(texts.whole());
                due("text()", x.text(), model.read());
            }
            case 7 -> {
                due("text()", x.text(), model.read());
                int what = from(0, 1);
                due("fault(" + what + ")", x.fault(what), model.fault(what));
            }
            case 8 -> {
                int text = from(random.nextInt(8) == 0 ? -1 : 0, model.texts.size() - 1);
                due("by(" + text + ")", bit(x.by(text)), model.by(text));
            }
            case 9 -> {
                int w = witness();
                int what = from(0, 3);
                due("of(" + w + ", " + what + ")", x.of(w, what), model.of(w, what));
            }
            case 10 -> {
                int w = witness();
                due("hear(" + w + ")", x.hear(w), model.hear(w));
            }
            case 11 -> {
                if (random.nextInt(4) == 0) {
                    due("rise()", x.rise(), model.rise());
                }
            }
            case 12 -> {
                due("fault(0)", x.fault(0), model.fault(0));
                due("fault(1)", x.fault(1), model.fault(1));
            }
            default -> ask(which);
        }
    }

    private void addWitness() {
        if (model.witnesses.size() < size || random.nextInt(20) == 0 && size == 10) {
            int knows = knows();
            int kind = from(0, 3);
            int strength = from(1, 9);
            int price = from(0, random.nextInt(3) == 0 ? 99 : 9);
            due("witness(" + knows + ", " + kind + ", " + strength + ", " + price + ")",
                    x.witness(knows, kind, strength, price), model.witness(knows, kind, strength, price));
        }
    }

    private void addVerdict() {
        int fact = fact();
        int burden = from(1, random.nextInt(2) == 0 ? 9 : 4);
        int chance = from(0, 99) * random.nextInt(2);
        due("verdict(" + fact + ", " + burden + ", " + chance + ")",
                x.verdict(fact, burden, chance), model.verdict(fact, burden, chance));
    }

    private void feed(byte[] bytes) {
        int before = model.tape.length;
        for (int i = 0; i < bytes.length; i += 20) {
            java.nio.ByteBuffer row = java.nio.ByteBuffer.allocate(20);
            row.put(bytes, i, Math.min(20, bytes.length - i));
            row.rewind();
            int a = row.getInt();
            int b = row.getInt();
            int c = row.getInt();
            int d = row.getInt();
            int e = row.getInt();
            due("feed(" + a + ", " + b + ", " + c + ", " + d + ", " + e + ")",
                    x.feed(a, b, c, d, e), model.feed(a, b, c, d, e));
        }
        int n = Math.min(before + bytes.length, model.tape.length);
        due("end(" + n + ")", x.end(n), model.end(n));
        log.add("  the tape: " + new String(model.tape, java.nio.charset.StandardCharsets.ISO_8859_1));
    }

    private void ask(int which) {
        int set = set();
        int verdict = verdict();
        int fact = fact();
        int k = from(0, model.heard.size());
        String sv = "(" + set + ", " + verdict + ")";
        switch (which) {
            case 13 -> due("shown(" + set + ", " + fact + ")", x.shown(set, fact), model.shown(set, fact));
            case 14 -> due("known(" + k + ", " + fact + ")", x.known(k, fact), model.known(k, fact));
            case 15 -> due("follows" + sv, x.follows(set, verdict), model.follows(set, verdict));
            case 16 -> due("appeal(" + k + ", " + verdict + ")", x.appeal(k, verdict), model.appeal(k, verdict));
            case 17 -> {
                for (int i = -2; i < 6; i++) {
                    int what = from(0, 1);
                    due("chain(" + set + ", " + verdict + ", " + i + ", " + what + ")",
                            x.chain(set, verdict, i, what), model.chain(set, verdict, i, what));
                }
            }
            case 18 -> due("weakest" + sv, x.weakest(set, verdict), model.weakest(set, verdict));
            case 19 -> due("defeats" + sv, x.defeats(set, verdict), model.defeats(set, verdict));
            case 20 -> {
                int what = from(0, 2);
                due("least(" + verdict + ", " + what + ")", x.least(verdict, what), model.least(verdict, what));
            }
            case 21 -> due("never()", x.never(), model.never());
            case 22 -> {
                int other = verdict();
                due("together(" + verdict + ", " + other + ")",
                        bit(x.together(verdict, other)), model.together(verdict, other));
            }
            case 23 -> due("amend" + sv, x.amend(set, verdict), model.amend(set, verdict));
            default -> askMore(which, verdict, fact);
        }
    }

    private void askMore(int which, int verdict, int fact) {
        switch (which) {
            case 24, 25 -> day(which == 24, verdict);
            case 26 -> {
                int w = witness();
                boolean says = random.nextBoolean();
                due("tell(" + w + ", " + fact + ", " + says + ")", x.tell(w, fact, says), model.tell(w, fact, says));
            }
            case 27 -> {
                int w = witness();
                due("kinds(" + w + ")", x.kinds(w), model.kinds(w));
            }
            case 28 -> {
                int seed = from(0, 9999);
                int n = from(1, 30);
                int what = from(0, 1);
                due("draws(" + seed + ", " + n + ", " + what + ")", x.draws(seed, n, what), model.draws(seed, n, what));
            }
            case 29 -> {
                if (random.nextInt(3) == 0) {
                    due("image()", x.image(), model.image());
                }
            }
            case 30 -> {
                if (random.nextInt(6) == 0) {
                    due("back()", x.back(), model.back());
                }
            }
            default -> {
                for (int what = -1; what < 41; what++) {
                    due("about(" + what + ")", x.about(what), model.about(what));
                }
            }
        }
    }

    private void day(boolean whole, int verdict) {
        boolean many = model.struck.stream().filter(is -> !is).count() > 4;
        int hours = from(0, many ? 4 : 6);
        int strikes = from(0, 2);
        int purse = from(0, random.nextInt(3) == 0 ? 999 : 40);
        String call = "(" + verdict + ", " + hours + ", " + strikes + ", " + purse + ")";
        if (whole) {
            due("day" + call, x.day(verdict, hours, strikes, purse), model.day(verdict, hours, strikes, purse));
        } else {
            due("best" + call, x.best(verdict, hours, strikes, purse), model.best(verdict, hours, strikes, purse));
        }
    }

}
