/**
 * A court that has its verdict and looks for what it follows from.
 *
 * <p>Every row is made in the constructor and used again, so that no call makes an object.
 */
public final class VerdictFirst {
    public static final int NONE = -1;

    private static final int FACTS = 16;
    private static final int ALL_FACTS = 65535;
    private static final int MOST_WITNESSES = 10;
    private static final int MOST_VERDICTS = 6;
    private static final int KINDS = 4;
    private static final int STRONGEST = 9;
    private static final int MOST_HOURS = 24;
    private static final int MOST_TEXTS = 4;
    private static final int MOST_BYTES = 300;
    private static final int MOST_CLAUSES = 16;
    private static final int MOST_SAYINGS = 20;
    private static final int MOST_PRICE = 99;
    private static final int MOST_FEE = 9999;
    private static final int MOST_SEED = 9999;
    private static final int MOST_DRAWS = 30;
    private static final int NOT_TOLD = -2;

    private final Court court = new Court();
    private final Court kept = new Court();
    // Texts are only ever added behind those of the image, so both courts can share these rows.
    private final Law[] laws = new Law[MOST_TEXTS];
    private final Law lawless = new Law();
    private final Reader reader = new Reader();
    private final Evidence evidence = new Evidence();
    private final Evidence more = new Evidence();
    private final Chain steps = new Chain();
    private final Day game = new Day();
    private final int[] names = new int[Law.NAMES];
    private final int[] says = new int[MOST_WITNESSES];
    private final int[] fees = new int[MOST_WITNESSES];
    private final int[] costs = new int[MOST_VERDICTS];
    private int leastCost = NONE;
    private int leastSet = NONE;
    private int leastRule = NONE;

    public VerdictFirst() {
        for (int i = 0; i < MOST_TEXTS; i++) {
            laws[i] = new Law();
        }
    }

    // ---- who and what is before the court ----

    public int witness(int knows, int kind, int strength, int price) {
        boolean fits = knows >= 0 && knows <= ALL_FACTS && kind >= 0 && kind < KINDS
                && strength >= 1 && strength <= STRONGEST && price >= 0 && price <= MOST_PRICE;
        return fits ? court.roll.add(knows, kind, strength, price) : NONE;
    }

    public int verdict(int fact, int burden, int chance) {
        boolean fits = isFact(fact) && burden >= 1 && burden <= STRONGEST
                && chance >= 0 && chance <= Docket.MOST_CHANCE;
        return fits ? court.docket.add(fact, burden, chance) : NONE;
    }

    public boolean hour(int h) {
        if (h < 0 || h >= MOST_HOURS) {
            return false;
        }
        court.time = h;
        return true;
    }

    public boolean strike(int witness, boolean is) {
        if (!isWitness(witness)) {
            return false;
        }
        int bit = 1 << witness;
        court.roll.struck = is ? court.roll.struck | bit : court.roll.struck & ~bit;
        return true;
    }

    // ---- texts ----

    public int feed(int a, int b, int c, int d, int e) {
        Tape tape = reader.tape;
        if (tape.length + Tape.FED > MOST_BYTES) {
            return NONE;
        }
        tape.put(a);
        tape.put(b);
        tape.put(c);
        tape.put(d);
        tape.put(e);
        return tape.length;
    }

    public int end(int n) {
        if (n < 0 || n > reader.tape.length) {
            return NONE;
        }
        reader.tape.length = n;
        return n;
    }

    public int text() {
        int number = court.texts;
        if (number < 0 || number >= MOST_TEXTS) {
            return NONE;
        }
        reader.read();
        reader.tape.length = 0;
        if (reader.flaw != 0) {
            return NONE;
        }
        laws[number].copy(reader.law);
        court.texts = number + 1;
        return number;
    }

    public int fault(int what) {
        if (!reader.hasRead || what < 0 || what > 1) {
            return NONE;
        }
        return what == 0 ? reader.flaw : reader.flawPlace;
    }

    public boolean by(int text) {
        if (text != NONE && (text < 0 || text >= court.texts)) {
            return false;
        }
        court.ruling = text;
        return true;
    }

    // ---- witnesses now and as they were heard ----

    public int of(int witness, int what) {
        if (!isWitness(witness)) {
            return NONE;
        }
        switch (what) {
            case 0:
                return saysAs(witness, court.roll.kind[witness]);
            case 1:
                return feeNow(witness, court.record.count);
            case 2:
                return isStruck(witness) ? 1 : 0;
            case 3:
                return court.record.has(witness) ? 1 : 0;
            default:
                return NONE;
        }
    }

    public int hear(int witness) {
        if (!isWitness(witness) || isStruck(witness) || court.record.has(witness)) {
            return NONE;
        }
        int fee = feeNow(witness, court.record.count);
        court.record.add(witness, saysAs(witness, court.roll.kind[witness]), fee);
        return fee;
    }

    public int rise() {
        int paid = court.record.paid();
        court.record.count = 0;
        return paid;
    }

    // ---- what is shown ----

    public int shown(int set, int fact) {
        if (!isSet(set) || !isFact(fact)) {
            return NONE;
        }
        findSayings();
        weigh(set);
        return ruling().strengthOf(evidence, fact);
    }

    public int known(int k, int fact) {
        if (!isHeardCount(k) || !isFact(fact)) {
            return NONE;
        }
        weighHeard(k);
        return ruling().strengthOf(evidence, fact);
    }

    public int follows(int set, int verdict) {
        if (!isSet(set) || !isVerdict(verdict)) {
            return NONE;
        }
        return followsBySet(set, verdict) ? 1 : 0;
    }

    public int appeal(int k, int verdict) {
        if (!isHeardCount(k) || !isVerdict(verdict)) {
            return NONE;
        }
        weighHeard(k);
        return carried(verdict, NONE) ? 1 : 0;
    }

    public int chain(int set, int verdict, int i, int what) {
        boolean asked = isSet(set) && isVerdict(verdict) && i >= NONE && (what == 0 || what == 1);
        if (!asked || !followsBySet(set, verdict)) {
            return NONE;
        }
        steps.trace(ruling(), evidence, court.docket.fact[verdict]);
        if (i == NONE) {
            return Integer.bitCount(steps.facts);
        }
        int fact = steps.factAt(i);
        return fact == NONE || what == 0 ? fact : steps.rule[fact];
    }

    public int weakest(int set, int verdict) {
        if (!isSet(set) || !isVerdict(verdict) || !followsBySet(set, verdict)) {
            return NONE;
        }
        steps.trace(ruling(), evidence, court.docket.fact[verdict]);
        return steps.weakestFact(ruling());
    }

    public int defeats(int set, int verdict) {
        if (!isSet(set) || !isVerdict(verdict) || !followsBySet(set, verdict)) {
            return NONE;
        }
        int found = 0;
        for (int fact = 0; fact < FACTS; fact++) {
            more.copy(evidence);
            more.add(1 << fact, STRONGEST);
            if (!ruling().carries(more, court.docket.fact[verdict], court.docket.burden[verdict], NONE)) {
                found |= 1 << fact;
            }
        }
        return found;
    }

    // ---- all sets ----

    public int least(int verdict, int what) {
        if (!isVerdict(verdict) || what < 0 || what > 2) {
            return NONE;
        }
        findSayings();
        findFees();
        findLeast(verdict);
        return what == 0 ? leastCost : what == 1 ? leastSet : leastRule;
    }

    public int never() {
        findSayings();
        int open = (1 << court.docket.count) - 1;
        int sets = 1 << court.roll.count;
        for (int set = 0; set < sets && open != 0; set++) {
            if ((set & court.roll.struck) == 0) {
                weigh(set);
                open &= ~carriedAmong(open);
            }
        }
        return open;
    }

    public boolean together(int one, int other) {
        if (!isVerdict(one) || !isVerdict(other) || one == other) {
            return false;
        }
        findSayings();
        int both = 1 << one | 1 << other;
        boolean ever = false;
        int sets = 1 << court.roll.count;
        for (int set = 0; set < sets; set++) {
            if ((set & court.roll.struck) == 0) {
                weigh(set);
                int carried = carriedAmong(both);
                if (carried != 0 && carried != both) {
                    return false;
                }
                ever |= carried == both;
            }
        }
        return ever;
    }

    public int amend(int set, int verdict) {
        if (!isSet(set) || !isVerdict(verdict) || followsBySet(set, verdict)) {
            return NONE;
        }
        int atAll = ruling().shownAtAll(evidence.facts[1], NONE);
        for (int rule = 0; rule < MOST_CLAUSES; rule++) {
            if (ruling().isBarred(rule, atAll) && carried(verdict, rule)) {
                return rule;
            }
        }
        return NONE;
    }

    // ---- the day ----

    public int day(int verdict, int hours, int strikes, int purse) {
        if (!isDay(verdict, hours, strikes, purse)) {
            return NONE;
        }
        playDay(verdict, hours, strikes);
        return game.isWon(purse) ? 1 : 0;
    }

    public int best(int verdict, int hours, int strikes, int purse) {
        if (!isDay(verdict, hours, strikes, purse) || hours == 0) {
            return NONE;
        }
        playDay(verdict, hours, strikes);
        return game.firstCall(purse);
    }

    // ---- sayings and draws ----

    public int tell(int witness, int fact, boolean says) {
        return isWitness(witness) && isFact(fact) ? court.sayings.add(witness, fact, says) : NONE;
    }

    public int kinds(int witness) {
        if (!isWitness(witness)) {
            return NONE;
        }
        int found = 0;
        for (int kind = 0; kind < KINDS; kind++) {
            if (court.sayings.fit(witness, saysAs(witness, kind))) {
                found |= 1 << kind;
            }
        }
        return found;
    }

    public int draws(int seed, int n, int what) {
        boolean asked = seed >= 0 && seed <= MOST_SEED && n >= 1 && n <= MOST_DRAWS && (what == 0 || what == 1);
        int chances = court.docket.chances();
        if (!asked || chances <= 0) {
            return NONE;
        }
        findCosts();
        int x = seed * 17 + 9;
        int many = 0;
        int sum = 0;
        for (int i = 0; i < n; i++) {
            int drawn = court.docket.drawnBy(x % chances);
            if (drawn != NONE && costs[drawn] != NONE) {
                many++;
                sum += costs[drawn];
            }
            x = (x * 199 + 47) % 30113;
        }
        return what == 0 ? many : sum;
    }

    // ---- the image, and what there is ----

    public int image() {
        kept.copy(court);
        return court.roll.count;
    }

    public int back() {
        court.copy(kept);
        return court.roll.count;
    }

    public int about(int what) {
        switch (what) {
            case 0:
                return court.roll.count;
            case 1:
                return court.docket.count;
            case 2:
                return court.time;
            case 3:
                return court.texts;
            case 4:
                return court.ruling;
            case 5:
                return court.record.count;
            case 6:
                return court.sayings.count;
            case 7:
                return reader.tape.length;
            case 8:
                return ruling().rules;
            default:
                return aboutHeard(what);
        }
    }

    private int aboutHeard(int what) {
        int i = what % 10;
        if (what < 10 || i >= court.record.count) {
            return NOT_TOLD;
        }
        switch (what / 10) {
            case 1:
                return court.record.who[i];
            case 2:
                return court.record.said[i];
            case 3:
                return court.record.fee[i];
            default:
                return NOT_TOLD;
        }
    }

    // ---- what an argument may be ----

    private boolean isWitness(int witness) {
        return witness >= 0 && witness < court.roll.count;
    }

    private boolean isVerdict(int verdict) {
        return verdict >= 0 && verdict < court.docket.count;
    }

    private boolean isSet(int set) {
        return set >= 0 && set < 1 << court.roll.count;
    }

    private boolean isHeardCount(int k) {
        return k >= 0 && k <= court.record.count;
    }

    private boolean isStruck(int witness) {
        return (court.roll.struck >> witness & 1) == 1;
    }

    private boolean isDay(int verdict, int hours, int strikes, int purse) {
        int free = court.roll.count - Integer.bitCount(court.roll.struck);
        return isVerdict(verdict) && free <= Day.SEATS && hours >= 0 && hours <= Day.MOST_HOURS
                && strikes >= 0 && strikes <= Day.MOST_STRIKES && purse >= 0 && purse <= Day.MOST_PURSE;
    }

    private static boolean isFact(int fact) {
        return fact >= 0 && fact < FACTS;
    }

    // ---- what witnesses say and take ----

    private Law ruling() {
        int number = court.ruling;
        return number >= 0 && number < MOST_TEXTS ? laws[number] : lawless;
    }

    private void describe(int witness) {
        names[Law.WHO] = witness;
        names[Law.KIND] = court.roll.kind[witness];
        names[Law.STRENGTH] = court.roll.strength[witness];
        names[Law.TIME] = court.time;
        names[Law.PRICE] = court.roll.price[witness];
    }

    private int saysAs(int witness, int kind) {
        describe(witness);
        names[Law.KIND] = kind;
        return ruling().spoken(names, court.roll.knows[witness]);
    }

    private int feeNow(int witness, int many) {
        describe(witness);
        names[Law.MANY] = many;
        return ruling().charged(names);
    }

    private void findSayings() {
        for (int i = 0; i < court.roll.count; i++) {
            says[i] = saysAs(i, court.roll.kind[i]);
        }
    }

    private void findFees() {
        for (int i = 0; i < court.roll.count; i++) {
            fees[i] = feeNow(i, court.record.count);
        }
    }

    // ---- evidence ----

    // Of what findSayings found, so that a search over many sets asks each witness once.
    private void weigh(int set) {
        evidence.clear();
        int free = set & ~court.roll.struck;
        for (int i = 0; i < court.roll.count; i++) {
            if ((free >> i & 1) == 1) {
                evidence.add(says[i], court.roll.strength[i]);
            }
        }
    }

    private void weighHeard(int k) {
        evidence.clear();
        for (int i = 0; i < k && i < court.record.count; i++) {
            int who = court.record.who[i];
            if (!isStruck(who)) {
                evidence.add(court.record.said[i], court.roll.strength[who]);
            }
        }
    }

    private boolean followsBySet(int set, int verdict) {
        findSayings();
        weigh(set);
        return carried(verdict, NONE);
    }

    private boolean carried(int verdict, int bent) {
        return ruling().carries(evidence, court.docket.fact[verdict], court.docket.burden[verdict], bent);
    }

    private int carriedAmong(int verdicts) {
        int found = 0;
        for (int i = 0; i < court.docket.count; i++) {
            if ((verdicts >> i & 1) == 1 && carried(i, NONE)) {
                found |= 1 << i;
            }
        }
        return found;
    }

    // ---- the least evidence ----

    private void findLeast(int verdict) {
        leastCost = NONE;
        leastSet = NONE;
        leastRule = NONE;
        int sets = 1 << court.roll.count;
        for (int set = 0; set < sets; set++) {
            if ((set & court.roll.struck) == 0) {
                tryLeast(verdict, set);
            }
        }
    }

    private void tryLeast(int verdict, int set) {
        int cost = feesOf(set);
        if (!isLess(cost)) {
            return;
        }
        weigh(set);
        if (carried(verdict, NONE)) {
            keepLeast(cost, set, NONE);
            return;
        }
        int atAll = ruling().shownAtAll(evidence.facts[1], NONE);
        for (int rule = 0; rule < MOST_CLAUSES; rule++) {
            int bentCost = cost + ruling().bendOf(rule);
            if (ruling().isBarred(rule, atAll) && isLess(bentCost) && carried(verdict, rule)) {
                keepLeast(bentCost, set, rule);
            }
        }
    }

    // Sets and rules come from the lowest on, so that of like costs the first is the one to keep.
    private boolean isLess(int cost) {
        return leastCost == NONE || cost < leastCost;
    }

    private void keepLeast(int cost, int set, int rule) {
        leastCost = cost;
        leastSet = set;
        leastRule = rule;
    }

    private int feesOf(int set) {
        int sum = 0;
        for (int i = 0; i < court.roll.count; i++) {
            if ((set >> i & 1) == 1) {
                sum += fees[i];
            }
        }
        return sum;
    }

    private void findCosts() {
        findSayings();
        findFees();
        for (int i = 0; i < court.docket.count; i++) {
            costs[i] = NONE;
            if (court.docket.chance[i] > 0) {
                findLeast(i);
                costs[i] = leastCost;
            }
        }
    }

    // ---- playing the day ----

    private void playDay(int verdict, int hours, int strikes) {
        findSayings();
        seatFree();
        int sets = 1 << game.seats;
        for (int heard = 0; heard < sets; heard++) {
            weigh(game.witnessesOf(heard));
            game.close(heard, carried(verdict, NONE));
        }
        game.play(hours, strikes);
    }

    private void seatFree() {
        game.seats = 0;
        for (int i = 0; i < court.roll.count; i++) {
            if (!isStruck(i) && game.seats < Day.SEATS) {
                int seat = game.seats;
                game.who[seat] = i;
                for (int many = 0; many < Day.SEATS; many++) {
                    game.fee[seat * Day.SEATS + many] = feeNow(i, many);
                }
                game.seats = seat + 1;
            }
        }
    }

    /** All that an image keeps. */
    private static final class Court {
        private final Roll roll = new Roll();
        private final Docket docket = new Docket();
        private final Record record = new Record();
        private final Sayings sayings = new Sayings();
        private int time = 0;
        private int texts = 0;
        private int ruling = NONE;

        private void copy(Court other) {
            roll.copy(other.roll);
            docket.copy(other.docket);
            record.copy(other.record);
            sayings.copy(other.sayings);
            time = other.time;
            texts = other.texts;
            ruling = other.ruling;
        }
    }

    /** The WITNESSES. */
    private static final class Roll {
        private int count = 0;
        private int struck = 0;
        private final int[] knows = new int[MOST_WITNESSES];
        private final int[] kind = new int[MOST_WITNESSES];
        private final int[] strength = new int[MOST_WITNESSES];
        private final int[] price = new int[MOST_WITNESSES];

        private int add(int itsKnows, int itsKind, int itsStrength, int itsPrice) {
            if (count < 0 || count >= MOST_WITNESSES) {
                return NONE;
            }
            knows[count] = itsKnows;
            kind[count] = itsKind;
            strength[count] = itsStrength;
            price[count] = itsPrice;
            count++;
            return count - 1;
        }

        private void copy(Roll other) {
            count = other.count;
            struck = other.struck;
            System.arraycopy(other.knows, 0, knows, 0, MOST_WITNESSES);
            System.arraycopy(other.kind, 0, kind, 0, MOST_WITNESSES);
            System.arraycopy(other.strength, 0, strength, 0, MOST_WITNESSES);
            System.arraycopy(other.price, 0, price, 0, MOST_WITNESSES);
        }
    }

    /** The VERDICTS. */
    private static final class Docket {
        private static final int MOST_CHANCE = 99;

        private int count = 0;
        private final int[] fact = new int[MOST_VERDICTS];
        private final int[] burden = new int[MOST_VERDICTS];
        private final int[] chance = new int[MOST_VERDICTS];

        private int add(int itsFact, int itsBurden, int itsChance) {
            if (count < 0 || count >= MOST_VERDICTS) {
                return NONE;
            }
            fact[count] = itsFact;
            burden[count] = itsBurden;
            chance[count] = itsChance;
            count++;
            return count - 1;
        }

        private int chances() {
            int sum = 0;
            for (int i = 0; i < count; i++) {
                sum += chance[i];
            }
            return sum;
        }

        private int drawnBy(int lot) {
            int rest = lot;
            for (int i = 0; i < count; i++) {
                if (rest < chance[i]) {
                    return i;
                }
                rest -= chance[i];
            }
            return NONE;
        }

        private void copy(Docket other) {
            count = other.count;
            System.arraycopy(other.fact, 0, fact, 0, MOST_VERDICTS);
            System.arraycopy(other.burden, 0, burden, 0, MOST_VERDICTS);
            System.arraycopy(other.chance, 0, chance, 0, MOST_VERDICTS);
        }
    }

    /** Those HEARD, in their order. */
    private static final class Record {
        private int count = 0;
        private final int[] who = new int[MOST_WITNESSES];
        private final int[] said = new int[MOST_WITNESSES];
        private final int[] fee = new int[MOST_WITNESSES];

        private boolean has(int witness) {
            for (int i = 0; i < count; i++) {
                if (who[i] == witness) {
                    return true;
                }
            }
            return false;
        }

        private void add(int witness, int itsSaid, int itsFee) {
            if (count >= 0 && count < MOST_WITNESSES) {
                who[count] = witness;
                said[count] = itsSaid;
                fee[count] = itsFee;
                count++;
            }
        }

        private int paid() {
            int sum = 0;
            for (int i = 0; i < count; i++) {
                sum += fee[i];
            }
            return sum;
        }

        private void copy(Record other) {
            count = other.count;
            System.arraycopy(other.who, 0, who, 0, MOST_WITNESSES);
            System.arraycopy(other.said, 0, said, 0, MOST_WITNESSES);
            System.arraycopy(other.fee, 0, fee, 0, MOST_WITNESSES);
        }
    }

    /** What was TOLD of witnesses. */
    private static final class Sayings {
        private int count = 0;
        private final int[] who = new int[MOST_SAYINGS];
        private final int[] fact = new int[MOST_SAYINGS];
        private final int[] so = new int[MOST_SAYINGS];

        private int add(int witness, int itsFact, boolean is) {
            if (count < 0 || count >= MOST_SAYINGS) {
                return NONE;
            }
            who[count] = witness;
            fact[count] = itsFact;
            so[count] = is ? 1 : 0;
            count++;
            return count;
        }

        private boolean fit(int witness, int spoken) {
            for (int i = 0; i < count; i++) {
                if (who[i] == witness && (spoken >> fact[i] & 1) != so[i]) {
                    return false;
                }
            }
            return true;
        }

        private void copy(Sayings other) {
            count = other.count;
            System.arraycopy(other.who, 0, who, 0, MOST_SAYINGS);
            System.arraycopy(other.fact, 0, fact, 0, MOST_SAYINGS);
            System.arraycopy(other.so, 0, so, 0, MOST_SAYINGS);
        }
    }

    /** For each strength the FACTS that have evidence of it or more, so that sets of them are compared at once. */
    private static final class Evidence {
        private final int[] facts = new int[STRONGEST + 1];

        private void clear() {
            for (int i = 0; i <= STRONGEST; i++) {
                facts[i] = 0;
            }
        }

        private void add(int said, int strength) {
            for (int i = 1; i <= strength && i <= STRONGEST; i++) {
                facts[i] |= said;
            }
        }

        private void copy(Evidence other) {
            System.arraycopy(other.facts, 0, facts, 0, STRONGEST + 1);
        }
    }

    /** The CHAIN of the latest verdict that was traced. */
    private static final class Chain {
        private int facts = 0;
        private int goal = 0;
        private final int[] rule = new int[FACTS];
        private final int[] strength = new int[FACTS];

        private void trace(Law law, Evidence evidence, int fact) {
            facts = 1 << fact;
            goal = fact;
            // A rule rests on lower facts alone, so one way down meets every step.
            for (int i = fact; i >= 0; i--) {
                if ((facts >> i & 1) == 1) {
                    strength[i] = law.strengthOf(evidence, i);
                    rule[i] = law.reasonOf(evidence, i, strength[i]);
                    facts |= law.needsOf(rule[i]);
                }
            }
        }

        private int factAt(int step) {
            int rest = step;
            for (int i = 0; i < FACTS; i++) {
                if ((facts >> i & 1) == 1) {
                    if (rest == 0) {
                        return i;
                    }
                    rest--;
                }
            }
            return NONE;
        }

        private int weakestFact(Law law) {
            for (int i = 0; i <= goal && i < FACTS; i++) {
                boolean isAsWeak = (facts >> i & 1) == 1 && strength[i] == strength[goal];
                if (isAsWeak && (rule[i] == NONE || law.worthOf(rule[i]) == strength[goal])) {
                    return i;
                }
            }
            return NONE;
        }
    }

    /** A TEXT as it was read: what it asks as rows in the order of reckoning, and its RULES by their CLAUSES. */
    private static final class Law {
        private static final int WHO = 0;
        private static final int KIND = 1;
        private static final int STRENGTH = 2;
        private static final int TIME = 3;
        private static final int PRICE = 4;
        private static final int MANY = 5;
        private static final int FACT = 6;
        private static final int NAMES = 7;
        private static final int FEE = 0;
        private static final int HIDES = 1;
        private static final int ADDS = 2;
        private static final int LAWS = 3;
        // A row of a law holds numbers as they are, names from NAME on and signs from SIGN on.
        private static final int NAME = 10000;
        private static final int SIGN = 20000;
        private static final int BOUND = 1000000;
        // 8 levels with a sum and a product open in each, beside one asked, one of "and" and one of "or".
        private static final int STACK = 32;

        private int length = 0;
        private int clauses = 0;
        private int rules = 0;
        private final int[] code = new int[MOST_BYTES];
        private final int[] from = {NONE, NONE, NONE};
        private final int[] to = {NONE, NONE, NONE};
        private final int[] order = new int[MOST_CLAUSES];
        private final int[] fact = new int[MOST_CLAUSES];
        private final int[] worth = new int[MOST_CLAUSES];
        private final int[] price = new int[MOST_CLAUSES];
        private final int[] needs = new int[MOST_CLAUSES];
        private final int[] bars = new int[MOST_CLAUSES];
        private final int[] stack = new int[STACK];

        private void clear() {
            length = 0;
            clauses = 0;
            rules = 0;
            for (int i = 0; i < LAWS; i++) {
                from[i] = NONE;
                to[i] = NONE;
            }
            for (int i = 0; i < MOST_CLAUSES; i++) {
                bars[i] = 0;
                needs[i] = 0;
            }
        }

        private void copy(Law other) {
            length = other.length;
            clauses = other.clauses;
            rules = other.rules;
            System.arraycopy(other.code, 0, code, 0, MOST_BYTES);
            System.arraycopy(other.from, 0, from, 0, LAWS);
            System.arraycopy(other.to, 0, to, 0, LAWS);
            System.arraycopy(other.order, 0, order, 0, MOST_CLAUSES);
            System.arraycopy(other.fact, 0, fact, 0, MOST_CLAUSES);
            System.arraycopy(other.worth, 0, worth, 0, MOST_CLAUSES);
            System.arraycopy(other.price, 0, price, 0, MOST_CLAUSES);
            System.arraycopy(other.needs, 0, needs, 0, MOST_CLAUSES);
            System.arraycopy(other.bars, 0, bars, 0, MOST_CLAUSES);
        }

        private boolean has(int law) {
            return law >= 0 && law < LAWS && from[law] != NONE;
        }

        private void open(int law) {
            if (law >= 0 && law < LAWS) {
                from[law] = length;
            }
        }

        private void shut(int law) {
            if (law >= 0 && law < LAWS) {
                to[law] = length;
            }
            clauses++;
        }

        private void emit(int item) {
            if (length >= 0 && length < MOST_BYTES) {
                code[length] = item;
                length++;
            }
        }

        // Held in the order of their facts: whatever a rule looks at is settled ahead of it.
        private void addRule(int itsFact, int itsWorth, int itsPrice, int itsNeeds, int itsBars) {
            if (clauses < 0 || clauses >= MOST_CLAUSES || rules < 0 || rules >= MOST_CLAUSES) {
                return;
            }
            fact[clauses] = itsFact;
            worth[clauses] = itsWorth;
            price[clauses] = itsPrice;
            needs[clauses] = itsNeeds;
            bars[clauses] = itsBars;
            int place = rules;
            while (place > 0 && fact[order[place - 1]] > itsFact) {
                order[place] = order[place - 1];
                place--;
            }
            order[place] = clauses;
            rules++;
        }

        private int spoken(int[] names, int knows) {
            int found = 0;
            for (int i = 0; i < FACTS; i++) {
                names[FACT] = i;
                boolean knowsIt = (knows >> i & 1) == 1;
                boolean isSo = knowsIt
                        ? !has(HIDES) || valueOf(HIDES, names) == 0
                        : has(ADDS) && valueOf(ADDS, names) != 0;
                if (isSo) {
                    found |= 1 << i;
                }
            }
            return found;
        }

        private int charged(int[] names) {
            if (!has(FEE)) {
                return names[PRICE];
            }
            return Math.max(0, Math.min(MOST_FEE, valueOf(FEE, names)));
        }

        private int valueOf(int law, int[] names) {
            int top = 0;
            for (int i = from[law]; i >= 0 && i < to[law] && i < MOST_BYTES; i++) {
                int item = code[i];
                if (item < SIGN) {
                    if (top < STACK) {
                        stack[top] = item < NAME ? item : named(item - NAME, names);
                        top++;
                    }
                } else if (item == SIGN + Reader.NOT || item == SIGN + Reader.LESS_IT) {
                    if (top > 0) {
                        stack[top - 1] = turned(item - SIGN, stack[top - 1]);
                    }
                } else if (top > 1) {
                    stack[top - 2] = bounded(reckoned(item - SIGN, stack[top - 2], stack[top - 1]));
                    top--;
                }
            }
            return top > 0 ? stack[0] : 0;
        }

        private static int named(int name, int[] names) {
            return name >= 0 && name < names.length ? names[name] : 0;
        }

        private static int turned(int sign, int value) {
            if (sign == Reader.NOT) {
                return value == 0 ? 1 : 0;
            }
            return -value;
        }

        private static long reckoned(int sign, long a, long b) {
            switch (sign) {
                case '+':
                    return a + b;
                case '-':
                    return a - b;
                case '*':
                    return a * b;
                case '/':
                    return b == 0 ? 0 : a / b;
                case Reader.AND:
                    return a & b;
                case Reader.OR:
                    return a | b;
                case '<':
                    return a < b ? 1 : 0;
                case '>':
                    return a > b ? 1 : 0;
                case '=':
                    return a == b ? 1 : 0;
                case '#':
                    return a != b ? 1 : 0;
                case Reader.AT_MOST:
                    return a <= b ? 1 : 0;
                default:
                    return a >= b ? 1 : 0;
            }
        }

        private static int bounded(long value) {
            return (int) Math.max(-BOUND, Math.min(BOUND, value));
        }

        private boolean isRule(int rule) {
            return rule >= 0 && rule < MOST_CLAUSES;
        }

        // A rule that anything else keeps off, or nothing, is the same when it is bent.
        private boolean isBarred(int rule, int atAll) {
            return isRule(rule) && (bars[rule] & atAll) != 0 && (needs[rule] & ~atAll) == 0;
        }

        private int bendOf(int rule) {
            return isRule(rule) ? price[rule] : 0;
        }

        private int worthOf(int rule) {
            return isRule(rule) ? worth[rule] : 0;
        }

        private int needsOf(int rule) {
            return isRule(rule) ? needs[rule] : 0;
        }

        private int shownAtAll(int evidence, int bent) {
            int found = evidence;
            for (int i = 0; i < rules; i++) {
                int rule = order[i];
                if ((needs[rule] & ~found) == 0 && ((bars[rule] & found) == 0 || rule == bent)) {
                    found |= 1 << fact[rule];
                }
            }
            return found;
        }

        private int shownBy(int strength, int evidence, int atAll, int bent) {
            int found = evidence;
            for (int i = 0; i < rules; i++) {
                int rule = order[i];
                if (worth[rule] >= strength && (needs[rule] & ~found) == 0
                        && ((bars[rule] & atAll) == 0 || rule == bent)) {
                    found |= 1 << fact[rule];
                }
            }
            return found;
        }

        private boolean carries(Evidence evidence, int goal, int burden, int bent) {
            int found = shownAtAll(evidence.facts[1], bent);
            if (burden > 1 && burden <= STRONGEST) {
                found = shownBy(burden, evidence.facts[burden], found, bent);
            }
            return (found >> goal & 1) == 1;
        }

        private int strengthOf(Evidence evidence, int goal) {
            int atAll = shownAtAll(evidence.facts[1], NONE);
            for (int i = STRONGEST; i >= 1; i--) {
                int found = shownBy(i, evidence.facts[i], atAll, NONE);
                if ((found >> goal & 1) == 1) {
                    return i;
                }
            }
            return 0;
        }

        /** The first RULE by which a FACT is SHOWN so strongly, NONE if evidence does it. */
        private int reasonOf(Evidence evidence, int goal, int strength) {
            if (strength < 1 || strength > STRONGEST || (evidence.facts[strength] >> goal & 1) == 1) {
                return NONE;
            }
            int atAll = shownAtAll(evidence.facts[1], NONE);
            int found = shownBy(strength, evidence.facts[strength], atAll, NONE);
            for (int i = 0; i < rules; i++) {
                int rule = order[i];
                if (fact[rule] == goal && worth[rule] >= strength && (needs[rule] & ~found) == 0
                        && (bars[rule] & atAll) == 0) {
                    return rule;
                }
            }
            return NONE;
        }
    }

    /** The bytes that were fed and not read yet, and their TOKENS with one of the end behind them. */
    private static final class Tape {
        private static final int FED = 20;
        private static final String WORDS =
                "fee hides adds rule worth bend by unless or and not who kind strength hour price many fact ";

        private int length = 0;
        private int count = 0;
        private final int[] bytes = new int[MOST_BYTES];
        private final int[] sort = new int[MOST_BYTES + 1];
        private final int[] value = new int[MOST_BYTES + 1];
        private final int[] place = new int[MOST_BYTES + 1];

        private void put(int word) {
            for (int shift = 24; shift >= 0; shift -= 8) {
                if (length >= 0 && length < MOST_BYTES) {
                    bytes[length] = word >> shift & 255;
                    length++;
                }
            }
        }

        private void split() {
            count = 0;
            int i = 0;
            while (i < length && i < MOST_BYTES) {
                int behind = i + 1;
                if (bytes[i] != ' ' && bytes[i] != '\n') {
                    behind = Math.max(behind, behindToken(i));
                    place[count] = i;
                    value[count] = 0;
                    sort[count] = sortOf(i, behind);
                    count++;
                }
                i = behind;
            }
            sort[count] = Reader.END;
            place[count] = length;
        }

        private int sortOf(int start, int behind) {
            int first = bytes[start];
            if (isLetter(first)) {
                return wordOf(start, behind);
            }
            if (isDigit(first)) {
                value[count] = numberOf(start, behind);
                return Reader.NUMBER;
            }
            if (behind - start == 2) {
                return first == '<' ? Reader.AT_MOST : Reader.AT_LEAST;
            }
            return isSign(first) ? first : Reader.UNKNOWN;
        }

        private int behindToken(int start) {
            int first = bytes[start];
            int i = start + 1;
            if (first == '<' || first == '>') {
                return i < length && bytes[i] == '=' ? i + 1 : i;
            }
            boolean letters = isLetter(first);
            boolean digits = isDigit(first);
            while (i < length && (letters && isLetter(bytes[i]) || digits && isDigit(bytes[i]))) {
                i++;
            }
            return i;
        }

        // The words' numbers, from 1 on, are those of Reader.
        private int wordOf(int start, int behind) {
            int word = 1;
            int at = start;
            boolean alike = true;
            for (int i = 0; i < WORDS.length(); i++) {
                char sign = WORDS.charAt(i);
                if (sign == ' ') {
                    if (alike && at == behind) {
                        return word;
                    }
                    word++;
                    at = start;
                    alike = true;
                } else {
                    alike = alike && at < behind && bytes[at] == sign;
                    at++;
                }
            }
            return Reader.UNKNOWN;
        }

        // Held at one above the greatest that may be: a tape has digits enough to wrap around.
        private int numberOf(int start, int behind) {
            int number = 0;
            for (int i = start; i < behind; i++) {
                number = Math.min(number * 10 + bytes[i] - '0', Reader.MOST_NUMBER + 1);
            }
            return number;
        }

        private static boolean isLetter(int sign) {
            return sign >= 'a' && sign <= 'z' || sign >= 'A' && sign <= 'Z';
        }

        private static boolean isDigit(int sign) {
            return sign >= '0' && sign <= '9';
        }

        private static boolean isSign(int sign) {
            switch (sign) {
                case '<':
                case '>':
                case '=':
                case '#':
                case '+':
                case '-':
                case '*':
                case '/':
                case '(':
                case ')':
                case ',':
                case ';':
                    return true;
                default:
                    return false;
            }
        }
    }

    /** Reads its tape into its law, up to the first FAULT. */
    private static final class Reader {
        private static final int UNKNOWN = 0;
        private static final int FEE = 1;
        private static final int RULE = 4;
        private static final int WORTH = 5;
        private static final int BEND = 6;
        private static final int BY = 7;
        private static final int UNLESS = 8;
        private static final int OR = 9;
        private static final int AND = 10;
        private static final int NOT = 11;
        private static final int FIRST_NAME = 12;
        private static final int LAST_NAME = 18;
        private static final int NUMBER = 20;
        private static final int END = 21;
        private static final int LESS_IT = 22;
        // Above every sign that stands for itself.
        private static final int AT_MOST = 130;
        private static final int AT_LEAST = 131;
        private static final int MOST_NUMBER = 9999;
        private static final int MOST_BEND = 99;
        private static final int DEEPEST = 8;
        private static final int WRONG_TOKEN = 1;
        private static final int WRONG_NUMBER = 2;
        private static final int TOO_DEEP = 3;
        private static final int TWICE = 4;
        private static final int WRONG_NAME = 5;
        private static final int TOO_MANY = 6;

        private final Tape tape = new Tape();
        private final Law law = new Law();
        private boolean hasRead = false;
        private int flaw = 0;
        private int flawPlace = NONE;
        private int at = 0;
        private boolean inFee = false;

        private void read() {
            hasRead = true;
            flaw = 0;
            flawPlace = NONE;
            at = 0;
            law.clear();
            tape.split();
            for (int i = 0; i < MOST_BYTES && sort() != END; i++) {
                clause();
            }
        }

        private int sort() {
            return at >= 0 && at <= tape.count && at <= MOST_BYTES ? tape.sort[at] : END;
        }

        private int value() {
            return at >= 0 && at <= tape.count && at <= MOST_BYTES ? tape.value[at] : 0;
        }

        // Behind a fault stands the end: nothing more can be taken, and no later fault is kept.
        private void fail(int itsFlaw) {
            if (flaw == 0) {
                flaw = itsFlaw;
                flawPlace = at >= 0 && at <= MOST_BYTES ? tape.place[at] : NONE;
                at = tape.count;
            }
        }

        private void pass(int wanted) {
            if (sort() == wanted) {
                at++;
            } else {
                fail(WRONG_TOKEN);
            }
        }

        private void clause() {
            int first = sort();
            if (first < FEE || first > RULE) {
                fail(WRONG_TOKEN);
            } else if (law.has(first - FEE)) {
                fail(TWICE);
            } else if (law.clauses >= MOST_CLAUSES) {
                fail(TOO_MANY);
            } else {
                at++;
                inFee = first == FEE;
                law.open(first - FEE);
                if (first == RULE) {
                    rule();
                } else if (inFee) {
                    sum(0);
                } else {
                    either();
                }
                law.shut(first - FEE);
                pass(';');
            }
        }

        private void rule() {
            int fact = number(0, FACTS - 1);
            pass(WORTH);
            int worth = number(1, STRONGEST);
            pass(BEND);
            int price = number(0, MOST_BEND);
            int needs = factsBehind(BY, fact);
            int bars = factsBehind(UNLESS, fact);
            if (flaw == 0) {
                law.addRule(fact, worth, price, needs, bars);
            }
        }

        private int factsBehind(int word, int fact) {
            int found = 0;
            boolean goesOn = sort() == word;
            for (int i = 0; i < MOST_BYTES && goesOn; i++) {
                at++;
                found |= 1 << number(0, fact - 1);
                goesOn = sort() == ',';
            }
            return found;
        }

        private int number(int lowest, int highest) {
            int value = value();
            if (sort() != NUMBER) {
                fail(WRONG_TOKEN);
                return lowest;
            }
            if (value < lowest || value > highest) {
                fail(WRONG_NUMBER);
                return lowest;
            }
            at++;
            return value;
        }

        private void either() {
            boolean goesOn = true;
            for (int i = 0; i < MOST_BYTES && goesOn; i++) {
                ask(0);
                for (int j = 0; j < MOST_BYTES && sort() == AND; j++) {
                    at++;
                    ask(0);
                    law.emit(Law.SIGN + AND);
                }
                if (i > 0) {
                    law.emit(Law.SIGN + OR);
                }
                goesOn = sort() == OR;
                if (goesOn) {
                    at++;
                }
            }
        }

        private void ask(int depth) {
            if (sort() != NOT) {
                sum(depth);
                int sign = sort();
                if (compares(sign)) {
                    at++;
                    sum(depth);
                    law.emit(Law.SIGN + sign);
                } else {
                    fail(WRONG_TOKEN);
                }
            } else if (depth >= DEEPEST) {
                fail(TOO_DEEP);
            } else {
                at++;
                ask(depth + 1);
                law.emit(Law.SIGN + NOT);
            }
        }

        private static boolean compares(int sign) {
            return sign == '<' || sign == '>' || sign == '=' || sign == '#' || sign == AT_MOST || sign == AT_LEAST;
        }

        private void sum(int depth) {
            int ahead = 0;
            boolean goesOn = true;
            for (int i = 0; i < MOST_BYTES && goesOn; i++) {
                one(depth);
                for (int j = 0; j < MOST_BYTES && (sort() == '*' || sort() == '/'); j++) {
                    int sign = sort();
                    at++;
                    one(depth);
                    law.emit(Law.SIGN + sign);
                }
                if (i > 0) {
                    law.emit(Law.SIGN + ahead);
                }
                ahead = sort();
                goesOn = ahead == '+' || ahead == '-';
                if (goesOn) {
                    at++;
                }
            }
        }

        private void one(int depth) {
            int first = sort();
            if (first == NUMBER && value() > MOST_NUMBER) {
                fail(WRONG_NUMBER);
            } else if (isForeign(first)) {
                fail(WRONG_NAME);
            } else if (first == NUMBER || first >= FIRST_NAME && first <= LAST_NAME) {
                law.emit(first == NUMBER ? value() : Law.NAME + first - FIRST_NAME);
                at++;
            } else if (first != '(' && first != '-') {
                fail(WRONG_TOKEN);
            } else if (depth >= DEEPEST) {
                fail(TOO_DEEP);
            } else {
                at++;
                if (first == '-') {
                    one(depth + 1);
                    law.emit(Law.SIGN + LESS_IT);
                } else {
                    sum(depth + 1);
                    // Not by pass: from text on, calls would go nine deep there.
                    if (sort() == ')') {
                        at++;
                    } else {
                        fail(WRONG_TOKEN);
                    }
                }
            }
        }

        private boolean isForeign(int first) {
            boolean isOfFee = first == FIRST_NAME + Law.PRICE || first == FIRST_NAME + Law.MANY;
            return inFee ? first == FIRST_NAME + Law.FACT : isOfFee;
        }
    }

    /**
     * THE DAY, from its last hour to its first: for those heard and struck so far, the least purse by which
     * the CLERK wins. A purse in hand that is greater never harms him, so that one number a row is enough.
     */
    private static final class Day {
        private static final int SEATS = 6;
        private static final int MOST_HOURS = 6;
        private static final int MOST_STRIKES = 2;
        private static final int MOST_PURSE = 999;
        private static final int NOBODY = 10;
        private static final int SETS = 64;
        private static final int ROWS = 729;
        private static final int NEVER_ENOUGH = 1000000;

        private int seats = 0;
        private final int[] who = new int[SEATS];
        private final int[] fee = new int[SEATS * SEATS];
        // Of a set of seats, its bits as digits of three: a seat is free, heard or struck.
        private final int[] spread = new int[SETS];
        private final int[] last = new int[SETS];
        private final int[] need = new int[ROWS];
        private final int[] called = new int[ROWS];

        private Day() {
            int weight = 1;
            for (int seat = 0; seat < SEATS; seat++) {
                for (int set = 0; set < SETS; set++) {
                    if ((set >> seat & 1) == 1) {
                        spread[set] += weight;
                    }
                }
                weight *= 3;
            }
        }

        private int witnessesOf(int set) {
            int found = 0;
            for (int i = 0; i < seats && i < SEATS; i++) {
                if ((set >> i & 1) == 1) {
                    found |= 1 << who[i];
                }
            }
            return found;
        }

        private void close(int heard, boolean isWon) {
            if (heard >= 0 && heard < SETS) {
                last[heard] = isWon ? 0 : NEVER_ENOUGH;
            }
        }

        private int rowOf(int heard, int struck) {
            return spread[heard & SETS - 1] + 2 * spread[struck & SETS - 1 & ~heard];
        }

        private void play(int hours, int strikes) {
            int sets = 1 << seats;
            for (int heard = 0; heard < sets && heard < SETS; heard++) {
                for (int struck = 0; struck < sets; struck++) {
                    need[rowOf(heard, struck)] = last[heard];
                }
            }
            for (int i = 0; i < hours && i < MOST_HOURS; i++) {
                playHour(sets, strikes);
            }
        }

        private void playHour(int sets, int strikes) {
            for (int heard = 0; heard < sets; heard++) {
                for (int struck = 0; struck < sets; struck++) {
                    if ((heard & struck) == 0 && Integer.bitCount(struck) <= strikes) {
                        called[rowOf(heard, struck)] = behindStrike(heard, struck, strikes);
                    }
                }
            }
            for (int heard = 0; heard < sets; heard++) {
                for (int struck = 0; struck < sets; struck++) {
                    if ((heard & struck) == 0 && Integer.bitCount(struck) <= strikes) {
                        need[rowOf(heard, struck)] = aheadOfCall(heard, struck);
                    }
                }
            }
        }

        private int behindStrike(int heard, int struck, int strikes) {
            int most = need[rowOf(heard, struck)];
            if (Integer.bitCount(struck) < strikes) {
                for (int i = 0; i < seats; i++) {
                    int bit = 1 << i;
                    if (((heard | struck) & bit) == 0) {
                        most = Math.max(most, need[rowOf(heard, struck | bit)]);
                    }
                }
            }
            return most;
        }

        private int aheadOfCall(int heard, int struck) {
            int fewest = called[rowOf(heard, struck)];
            for (int i = 0; i < seats; i++) {
                int bit = 1 << i;
                if (((heard | struck) & bit) == 0) {
                    int paid = feeAt(i, Integer.bitCount(heard));
                    fewest = Math.min(fewest, paid + called[rowOf(heard | bit, struck)]);
                }
            }
            return fewest;
        }

        private int feeAt(int seat, int many) {
            int place = seat * SEATS + many;
            return place >= 0 && place < SEATS * SEATS ? fee[place] : NEVER_ENOUGH;
        }

        private boolean isWon(int purse) {
            return need[0] <= purse;
        }

        private int firstCall(int purse) {
            for (int i = 0; i < seats && i < SEATS; i++) {
                if (feeAt(i, 0) + called[rowOf(1 << i, 0)] <= purse) {
                    return who[i];
                }
            }
            return called[0] <= purse ? NOBODY : NONE;
        }
    }
}
