import java.util.ArrayList;
import java.util.HashMap;
import java.util.List;
import java.util.Map;

/**
 * The document once more, as plainly as it can be said and without regard to speed or room: what ModelTest holds
 * the class against. It shares nothing with it, neither the way of reading texts nor of searching.
 */
final class Model {
    /** A fault of a text. */
    static final class Flaw extends RuntimeException {
        private static final long serialVersionUID = 1L;
        final int code;
        final int place;

        Flaw(int code, int place) {
            super(null, null, false, false);
            this.code = code;
            this.place = place;
        }
    }

    record Token(String text, int place) { }

    record Rule(int number, int fact, int worth, int bend, List<Integer> by, List<Integer> unless) { }

    interface Term {
        long value(Map<String, Integer> names);
    }

    static final class Text {
        Term fee;
        Term hides;
        Term adds;
        int clauses;
        final List<Rule> rules = new ArrayList<>();
    }

    record Witness(int knows, int kind, int strength, int price) { }

    record Verdict(int fact, int burden, int chance) { }

    record Heard(int who, int said, int fee) { }

    record Told(int who, int fact, boolean says) { }

    record Kept(List<Witness> witnesses, List<Verdict> verdicts, List<Boolean> struck, int hour, List<Text> texts,
            int ruling, List<Heard> heard, List<Told> told) { }

    List<Witness> witnesses = new ArrayList<>();
    List<Verdict> verdicts = new ArrayList<>();
    List<Boolean> struck = new ArrayList<>();
    int hour = 0;
    List<Text> texts = new ArrayList<>();
    int ruling = -1;
    List<Heard> heard = new ArrayList<>();
    List<Told> told = new ArrayList<>();
    byte[] tape = new byte[0];
    boolean wasRead = false;
    int flaw = 0;
    int flawPlace = -1;
    Kept kept = keep();

    private Kept keep() {
        return new Kept(new ArrayList<>(witnesses), new ArrayList<>(verdicts), new ArrayList<>(struck), hour,
                new ArrayList<>(texts), ruling, new ArrayList<>(heard), new ArrayList<>(told));
    }

    // ---- reading ----

    private static final class Parser {
        final List<Token> tokens = new ArrayList<>();
        int at = 0;
        Text text = new Text();
        String clause = "";

        Parser(byte[] tape) {
            int i = 0;
            while (i < tape.length) {
                char c = (char) (tape[i] & 255);
                int start = i;
                i++;
                if (c == ' ' || c == '\n') {
                    continue;
                }
                String all = new String(tape, java.nio.charset.StandardCharsets.ISO_8859_1);
                if (String.valueOf(c).matches("[a-zA-Z]")) {
                    while (i < tape.length && all.substring(i, i + 1).matches("[a-zA-Z]")) {
                        i++;
                    }
                } else if (c >= '0' && c <= '9') {
                    while (i < tape.length && all.substring(i, i + 1).matches("[0-9]")) {
                        i++;
                    }
                } else if (all.startsWith("<=", start) || all.startsWith(">=", start)) {
                    i++;
                }
                tokens.add(new Token(all.substring(start, i), start));
            }
            tokens.add(new Token("", tape.length));
        }

        String now() {
            return tokens.get(at).text();
        }

        Flaw flaw(int code) {
            return new Flaw(code, tokens.get(at).place());
        }

        boolean take(String wanted) {
            if (now().equals(wanted)) {
                at++;
                return true;
            }
            return false;
        }

        void must(String wanted) {
            if (!take(wanted)) {
                throw flaw(1);
            }
        }

        int number(int low, int high) {
            if (!now().matches("[0-9]+")) {
                throw flaw(1);
            }
            java.math.BigInteger value = new java.math.BigInteger(now());
            if (value.bitLength() > 30 || value.intValue() < low || value.intValue() > high) {
                throw flaw(2);
            }
            at++;
            return value.intValue();
        }

        Text read() {
            while (!now().isEmpty()) {
                clause = now();
                boolean twice = clause.equals("fee") && text.fee != null || clause.equals("hides") && text.hides != null
                        || clause.equals("adds") && text.adds != null;
                if (!List.of("fee", "hides", "adds", "rule").contains(clause)) {
                    throw flaw(1);
                }
                if (twice) {
                    throw flaw(4);
                }
                if (text.clauses == 16) {
                    throw flaw(6);
                }
                at++;
                switch (clause) {
                    case "fee" -> text.fee = sum(0);
                    case "hides" -> text.hides = either();
                    case "adds" -> text.adds = either();
                    default -> rule();
                }
                must(";");
                text.clauses++;
            }
            return text;
        }

        void rule() {
            int fact = number(0, 15);
            must("worth");
            int worth = number(1, 9);
            must("bend");
            int bend = number(0, 99);
            List<Integer> by = take("by") ? numbers(fact) : List.of();
            List<Integer> unless = take("unless") ? numbers(fact) : List.of();
            text.rules.add(new Rule(text.clauses, fact, worth, bend, by, unless));
        }

        List<Integer> numbers(int below) {
            List<Integer> found = new ArrayList<>();
            do {
                found.add(number(0, below - 1));
            } while (take(","));
            return found;
        }

        Term either() {
            Term left = both();
            while (take("or")) {
                Term a = left;
                Term b = both();
                left = names -> a.value(names) != 0 || b.value(names) != 0 ? 1 : 0;
            }
            return left;
        }

        Term both() {
            Term left = ask(0);
            while (take("and")) {
                Term a = left;
                Term b = ask(0);
                left = names -> a.value(names) != 0 && b.value(names) != 0 ? 1 : 0;
            }
            return left;
        }

        Term ask(int open) {
            if (now().equals("not")) {
                if (open == 8) {
                    throw flaw(3);
                }
                at++;
                Term of = ask(open + 1);
                return names -> of.value(names) == 0 ? 1 : 0;
            }
            Term a = sum(open);
            String sign = now();
            if (!List.of("<", "<=", ">", ">=", "=", "#").contains(sign)) {
                throw flaw(1);
            }
            at++;
            Term b = sum(open);
            return names -> {
                int order = Long.compare(a.value(names), b.value(names));
                return switch (sign) {
                    case "<" -> order < 0;
                    case "<=" -> order <= 0;
                    case ">" -> order > 0;
                    case ">=" -> order >= 0;
                    case "=" -> order == 0;
                    default -> order != 0;
                } ? 1 : 0;
            };
        }

        static long held(long value) {
            return value > 1000000 ? 1000000 : value < -1000000 ? -1000000 : value;
        }

        Term sum(int open) {
            Term left = product(open);
            while (now().equals("+") || now().equals("-")) {
                int way = now().equals("+") ? 1 : -1;
                at++;
                Term a = left;
                Term b = product(open);
                left = names -> held(a.value(names) + way * b.value(names));
            }
            return left;
        }

        Term product(int open) {
            Term left = one(open);
            while (now().equals("*") || now().equals("/")) {
                boolean times = now().equals("*");
                at++;
                Term a = left;
                Term b = one(open);
                left = names -> {
                    long x = a.value(names);
                    long y = b.value(names);
                    return times ? held(x * y) : y == 0 ? 0 : held(x / y);
                };
            }
            return left;
        }

        Term one(int open) {
            String first = now();
            if (first.matches("[0-9]+")) {
                int value = number(0, 9999);
                return names -> value;
            }
            if (List.of("who", "kind", "strength", "hour", "price", "many", "fact").contains(first)) {
                boolean fee = clause.equals("fee");
                if (fee ? first.equals("fact") : first.equals("price") || first.equals("many")) {
                    throw flaw(5);
                }
                at++;
                return names -> names.get(first);
            }
            if (!first.equals("(") && !first.equals("-")) {
                throw flaw(1);
            }
            if (open == 8) {
                throw flaw(3);
            }
            at++;
            if (first.equals("-")) {
                Term of = one(open + 1);
                return names -> held(-of.value(names));
            }
            Term inside = sum(open + 1);
            must(")");
            return inside;
        }
    }

    // ---- words of the document ----

    private final Text lawless = new Text();

    private Text text() {
        return ruling < 0 ? lawless : texts.get(ruling);
    }

    /** All that what a witness says, or takes (then with how many are heard), hangs on. */
    record Asked(Witness witness, int who, int kind, int many, int hour, Text text) { }

    private final Map<Asked, Integer> answers = new HashMap<>();

    private int says(int who, int kind) {
        Asked asked = new Asked(witnesses.get(who), who, kind, -1, hour, text());
        return answers.computeIfAbsent(asked, one -> saysAnew(who, kind));
    }

    private int fee(int who, int many) {
        Asked asked = new Asked(witnesses.get(who), who, witnesses.get(who).kind(), many, hour, text());
        return answers.computeIfAbsent(asked, one -> feeAnew(who, many));
    }

    private int saysAnew(int who, int kind) {
        Witness w = witnesses.get(who);
        int bits = 0;
        for (int fact = 0; fact < 16; fact++) {
            Map<String, Integer> names = new HashMap<>();
            names.put("who", who);
            names.put("kind", kind);
            names.put("strength", w.strength());
            names.put("hour", hour);
            names.put("fact", fact);
            boolean hidden = text().hides != null && text().hides.value(names) != 0;
            boolean added = text().adds != null && text().adds.value(names) != 0;
            boolean knows = (w.knows() & 1 << fact) != 0;
            if (knows && !hidden || !knows && added) {
                bits |= 1 << fact;
            }
        }
        return bits;
    }

    private int says(int who) {
        return says(who, witnesses.get(who).kind());
    }

    private int feeAnew(int who, int many) {
        Witness w = witnesses.get(who);
        if (text().fee == null) {
            return w.price();
        }
        Map<String, Integer> names = new HashMap<>();
        names.put("who", who);
        names.put("kind", w.kind());
        names.put("strength", w.strength());
        names.put("hour", hour);
        names.put("price", w.price());
        names.put("many", many);
        return (int) Math.max(0, Math.min(9999, text().fee.value(names)));
    }

    private int[] evidenceOf(int set) {
        int[] evidence = new int[16];
        for (int who = 0; who < witnesses.size(); who++) {
            if ((set & 1 << who) != 0 && !struck.get(who)) {
                raise(evidence, says(who), witnesses.get(who).strength());
            }
        }
        return evidence;
    }

    private int[] evidenceHeard(int k) {
        int[] evidence = new int[16];
        for (Heard one : heard.subList(0, k)) {
            if (!struck.get(one.who())) {
                raise(evidence, one.said(), witnesses.get(one.who()).strength());
            }
        }
        return evidence;
    }

    private static void raise(int[] evidence, int bits, int strength) {
        for (int fact = 0; fact < 16; fact++) {
            if ((bits & 1 << fact) != 0) {
                evidence[fact] = Math.max(evidence[fact], strength);
            }
        }
    }

    private static int carries(Rule rule, int[] shown, int bent) {
        int least = rule.worth();
        for (int fact : rule.by()) {
            least = Math.min(least, shown[fact]);
        }
        for (int fact : rule.unless()) {
            if (shown[fact] >= 1 && rule.number() != bent) {
                return 0;
            }
        }
        return least;
    }

    private int[] show(int[] evidence, int bent) {
        int[] shown = new int[16];
        for (int fact = 0; fact < 16; fact++) {
            shown[fact] = evidence[fact];
            for (Rule rule : text().rules) {
                if (rule.fact() == fact) {
                    shown[fact] = Math.max(shown[fact], carries(rule, shown, bent));
                }
            }
        }
        return shown;
    }

    private boolean isBy(int[] evidence, int verdict, int bent) {
        return show(evidence, bent)[verdicts.get(verdict).fact()] >= verdicts.get(verdict).burden();
    }

    private boolean isWitness(int witness) {
        return witness >= 0 && witness < witnesses.size();
    }

    private boolean isVerdict(int verdict) {
        return verdict >= 0 && verdict < verdicts.size();
    }

    private boolean isSet(int set) {
        return set >= 0 && set < 1 << witnesses.size();
    }

    private static boolean isFact(int fact) {
        return fact >= 0 && fact <= 15;
    }

    // ---- promises ----

    int witness(int knows, int kind, int strength, int price) {
        if (knows < 0 || knows > 65535 || kind < 0 || kind > 3 || strength < 1 || strength > 9 || price < 0
                || price > 99 || witnesses.size() == 10) {
            return -1;
        }
        witnesses.add(new Witness(knows, kind, strength, price));
        struck.add(false);
        return witnesses.size() - 1;
    }

    int verdict(int fact, int burden, int chance) {
        if (!isFact(fact) || burden < 1 || burden > 9 || chance < 0 || chance > 99 || verdicts.size() == 6) {
            return -1;
        }
        verdicts.add(new Verdict(fact, burden, chance));
        return verdicts.size() - 1;
    }

    int hour(int h) {
        if (h < 0 || h > 23) {
            return 0;
        }
        hour = h;
        return 1;
    }

    int strike(int witness, boolean is) {
        if (!isWitness(witness)) {
            return 0;
        }
        struck.set(witness, is);
        return 1;
    }

    int feed(int a, int b, int c, int d, int e) {
        if (tape.length + 20 > 300) {
            return -1;
        }
        java.nio.ByteBuffer more = java.nio.ByteBuffer.allocate(tape.length + 20);
        more.put(tape).putInt(a).putInt(b).putInt(c).putInt(d).putInt(e);
        tape = more.array();
        return tape.length;
    }

    int end(int n) {
        if (n < 0 || n > tape.length) {
            return -1;
        }
        tape = java.util.Arrays.copyOf(tape, n);
        return n;
    }

    int read() {
        if (texts.size() == 4) {
            return -1;
        }
        byte[] bytes = tape;
        tape = new byte[0];
        wasRead = true;
        try {
            texts.add(new Parser(bytes).read());
            flaw = 0;
            flawPlace = -1;
            return texts.size() - 1;
        } catch (Flaw found) {
            flaw = found.code;
            flawPlace = found.place;
            return -1;
        }
    }

    int fault(int what) {
        return !wasRead ? -1 : what == 0 ? flaw : what == 1 ? flawPlace : -1;
    }

    int by(int number) {
        if (number < -1 || number >= texts.size()) {
            return 0;
        }
        ruling = number;
        return 1;
    }

    private boolean isHeard(int witness) {
        return heard.stream().anyMatch(one -> one.who() == witness);
    }

    int of(int witness, int what) {
        if (!isWitness(witness)) {
            return -1;
        }
        return switch (what) {
            case 0 -> says(witness);
            case 1 -> fee(witness, heard.size());
            case 2 -> struck.get(witness) ? 1 : 0;
            case 3 -> isHeard(witness) ? 1 : 0;
            default -> -1;
        };
    }

    int hear(int witness) {
        if (!isWitness(witness) || struck.get(witness) || isHeard(witness)) {
            return -1;
        }
        int fee = fee(witness, heard.size());
        heard.add(new Heard(witness, says(witness), fee));
        return fee;
    }

    int rise() {
        int sum = heard.stream().mapToInt(Heard::fee).sum();
        heard.clear();
        return sum;
    }

    int shown(int set, int fact) {
        return isSet(set) && isFact(fact) ? show(evidenceOf(set), -1)[fact] : -1;
    }

    int known(int k, int fact) {
        return k >= 0 && k <= heard.size() && isFact(fact) ? show(evidenceHeard(k), -1)[fact] : -1;
    }

    int follows(int set, int verdict) {
        return !isSet(set) || !isVerdict(verdict) ? -1 : isBy(evidenceOf(set), verdict, -1) ? 1 : 0;
    }

    int appeal(int k, int verdict) {
        return k < 0 || k > heard.size() || !isVerdict(verdict) ? -1 : isBy(evidenceHeard(k), verdict, -1) ? 1 : 0;
    }

    /** Of each fact of a chain its rule, -1 by evidence; in the order of facts. */
    private Map<Integer, Integer> steps(int set, int verdict) {
        int[] evidence = evidenceOf(set);
        int[] shown = show(evidence, -1);
        Map<Integer, Integer> steps = new java.util.TreeMap<>();
        List<Integer> open = new ArrayList<>(List.of(verdicts.get(verdict).fact()));
        while (!open.isEmpty()) {
            int fact = open.remove(0);
            if (steps.containsKey(fact)) {
                continue;
            }
            steps.put(fact, -1);
            if (evidence[fact] == shown[fact]) {
                continue;
            }
            for (Rule rule : text().rules) {
                if (rule.fact() == fact && carries(rule, shown, -1) == shown[fact]) {
                    steps.put(fact, rule.number());
                    open.addAll(rule.by());
                    break;
                }
            }
        }
        return steps;
    }

    int chain(int set, int verdict, int i, int what) {
        if (follows(set, verdict) != 1 || what < 0 || what > 1 || i < -1) {
            return -1;
        }
        Map<Integer, Integer> steps = steps(set, verdict);
        if (i == -1) {
            return steps.size();
        }
        if (i >= steps.size()) {
            return -1;
        }
        int fact = new ArrayList<>(steps.keySet()).get(i);
        return what == 0 ? fact : steps.get(fact);
    }

    int weakest(int set, int verdict) {
        if (follows(set, verdict) != 1) {
            return -1;
        }
        int[] shown = show(evidenceOf(set), -1);
        int strength = shown[verdicts.get(verdict).fact()];
        for (Map.Entry<Integer, Integer> step : steps(set, verdict).entrySet()) {
            int number = step.getValue();
            boolean itself = number == -1
                    || text().rules.stream().anyMatch(rule -> rule.number() == number && rule.worth() == strength);
            if (shown[step.getKey()] == strength && itself) {
                return step.getKey();
            }
        }
        return -1;
    }

    int defeats(int set, int verdict) {
        if (follows(set, verdict) != 1) {
            return -1;
        }
        int bits = 0;
        for (int fact = 0; fact < 16; fact++) {
            int[] evidence = evidenceOf(set);
            raise(evidence, 1 << fact, 9);
            if (!isBy(evidence, verdict, -1)) {
                bits |= 1 << fact;
            }
        }
        return bits;
    }

    private boolean hasStruck(int set) {
        for (int who = 0; who < witnesses.size(); who++) {
            if ((set & 1 << who) != 0 && struck.get(who)) {
                return true;
            }
        }
        return false;
    }

    private int[] leastOf(int verdict) {
        int[] best = null;
        for (int set = 0; set < 1 << witnesses.size(); set++) {
            if (hasStruck(set)) {
                continue;
            }
            int cost = 0;
            for (int who = 0; who < witnesses.size(); who++) {
                cost += (set & 1 << who) != 0 ? fee(who, heard.size()) : 0;
            }
            int[] evidence = evidenceOf(set);
            for (int bent = -1; bent < 16; bent++) {
                int number = bent;
                int bend = bent == -1 ? 0 : text().rules.stream().filter(rule -> rule.number() == number)
                        .mapToInt(Rule::bend).findFirst().orElse(-1);
                if (bend >= 0 && isBy(evidence, verdict, bent) && (best == null || cost + bend < best[0])) {
                    best = new int[] {cost + bend, set, bent};
                }
            }
        }
        return best;
    }

    int least(int verdict, int what) {
        if (!isVerdict(verdict) || what < 0 || what > 2) {
            return -1;
        }
        int[] best = leastOf(verdict);
        return best == null ? -1 : best[what];
    }

    private String sets(int verdict) {
        StringBuilder sets = new StringBuilder();
        for (int set = 0; set < 1 << witnesses.size(); set++) {
            sets.append(isBy(evidenceOf(set), verdict, -1) ? '1' : '0');
        }
        return sets.toString();
    }

    int never() {
        int bits = 0;
        for (int i = 0; i < verdicts.size(); i++) {
            bits |= sets(i).contains("1") ? 0 : 1 << i;
        }
        return bits;
    }

    int together(int one, int other) {
        if (!isVerdict(one) || !isVerdict(other) || one == other) {
            return 0;
        }
        return sets(one).contains("1") && sets(one).equals(sets(other)) ? 1 : 0;
    }

    int amend(int set, int verdict) {
        if (follows(set, verdict) != 0) {
            return -1;
        }
        for (Rule rule : text().rules) {
            if (isBy(evidenceOf(set), verdict, rule.number())) {
                return rule.number();
            }
        }
        return -1;
    }

    private boolean isDay(int verdict, int hours, int strikes, int purse) {
        return isVerdict(verdict) && struck.stream().filter(is -> !is).count() <= 6 && hours >= 0 && hours <= 6
                && strikes >= 0 && strikes <= 2 && purse >= 0 && purse <= 999;
    }

    private boolean clerkWins(int verdict, int hours, int strikes, int purse, int called, int barred) {
        if (hours == 0) {
            return isBy(evidenceOf(called), verdict, -1);
        }
        for (int who = 0; who <= witnesses.size(); who++) {
            if (callWins(verdict, hours, strikes, purse, called, barred, who)) {
                return true;
            }
        }
        return false;
    }

    /** Whether the clerk wins by calling one (or none, the one behind all). */
    private boolean callWins(int verdict, int hours, int strikes, int purse, int called, int barred, int who) {
        int rest = purse;
        int next = called;
        if (who < witnesses.size()) {
            int fee = fee(who, Integer.bitCount(called));
            if (struck.get(who) || ((called | barred) & 1 << who) != 0 || fee > purse) {
                return false;
            }
            rest -= fee;
            next |= 1 << who;
        }
        if (!clerkWins(verdict, hours - 1, strikes, rest, next, barred)) {
            return false;
        }
        for (int other = 0; other < witnesses.size() && strikes > 0; other++) {
            boolean free = !struck.get(other) && ((next | barred) & 1 << other) == 0;
            if (free && !clerkWins(verdict, hours - 1, strikes - 1, rest, next, barred | 1 << other)) {
                return false;
            }
        }
        return true;
    }

    int day(int verdict, int hours, int strikes, int purse) {
        return !isDay(verdict, hours, strikes, purse) ? -1 : clerkWins(verdict, hours, strikes, purse, 0, 0) ? 1 : 0;
    }

    int best(int verdict, int hours, int strikes, int purse) {
        if (!isDay(verdict, hours, strikes, purse) || hours == 0) {
            return -1;
        }
        for (int who = 0; who <= witnesses.size(); who++) {
            if (callWins(verdict, hours, strikes, purse, 0, 0, who)) {
                return who == witnesses.size() ? 10 : who;
            }
        }
        return -1;
    }

    int tell(int witness, int fact, boolean says) {
        if (!isWitness(witness) || !isFact(fact) || told.size() == 20) {
            return -1;
        }
        told.add(new Told(witness, fact, says));
        return told.size();
    }

    int kinds(int witness) {
        if (!isWitness(witness)) {
            return -1;
        }
        int bits = 0;
        for (int kind = 0; kind < 4; kind++) {
            int says = says(witness, kind);
            boolean fits = told.stream().filter(one -> one.who() == witness)
                    .allMatch(one -> (says & 1 << one.fact()) != 0 == one.says());
            bits |= fits ? 1 << kind : 0;
        }
        return bits;
    }

    int draws(int seed, int n, int what) {
        List<Integer> lots = new ArrayList<>();
        for (int i = 0; i < verdicts.size(); i++) {
            for (int j = 0; j < verdicts.get(i).chance(); j++) {
                lots.add(i);
            }
        }
        if (seed < 0 || seed > 9999 || n < 1 || n > 30 || what < 0 || what > 1 || lots.isEmpty()) {
            return -1;
        }
        long x = seed * 17L + 9;
        int many = 0;
        int sum = 0;
        Map<Integer, Integer> costs = new HashMap<>();
        for (int i = 0; i < n; i++) {
            int drawn = lots.get((int) (x % lots.size()));
            int cost = costs.computeIfAbsent(drawn, one -> least(one, 0));
            if (cost != -1) {
                many++;
                sum += cost;
            }
            x = (x * 199 + 47) % 30113;
        }
        return what == 0 ? many : sum;
    }

    int image() {
        kept = keep();
        return witnesses.size();
    }

    int back() {
        Kept now = kept;
        witnesses = new ArrayList<>(now.witnesses());
        verdicts = new ArrayList<>(now.verdicts());
        struck = new ArrayList<>(now.struck());
        hour = now.hour();
        texts = new ArrayList<>(now.texts());
        ruling = now.ruling();
        heard = new ArrayList<>(now.heard());
        told = new ArrayList<>(now.told());
        return witnesses.size();
    }

    int about(int what) {
        if (what >= 10 && what < 40 && what % 10 < heard.size()) {
            Heard one = heard.get(what % 10);
            return what < 20 ? one.who() : what < 30 ? one.said() : one.fee();
        }
        return switch (what) {
            case 0 -> witnesses.size();
            case 1 -> verdicts.size();
            case 2 -> hour;
            case 3 -> texts.size();
            case 4 -> ruling;
            case 5 -> heard.size();
            case 6 -> told.size();
            case 7 -> tape.length;
            case 8 -> text().rules.size();
            default -> -2;
        };
    }
}
