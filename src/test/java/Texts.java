import java.nio.charset.StandardCharsets;
import java.util.Random;

/** Texts of the document's form, and such as have been spoilt. */
final class Texts {
    private static final String[] PIECES = {"fee", "hides", "adds", "rule", "worth", "bend", "by", "unless", "or", "and",
        "not", "who", "kind", "strength", "hour", "price", "many", "fact", "foo", "Fee", "0", "1", "9", "10", "15", "16",
        "99", "100", "9999", "10000", "<", "<=", ">", ">=", "=", "#", "+", "-", "*", "/", "(", ")", ",", ";", "!", "\t",
        "\0", "\u00e9", "\n"};

    private final Random random;
    private final int facts;
    private StringBuilder out = new StringBuilder();

    Texts(Random random) {
        this(random, 16);
    }

    /** Most rules are of so many facts alone: of few, they rest on one another more often. */
    Texts(Random random, int facts) {
        this.random = random;
        this.facts = facts;
    }

    byte[] whole() {
        String text = text();
        for (int i = 0; i < 30 && text.length() > 300; i++) {
            text = text();
        }
        if (random.nextInt(3) == 0) {
            text = spoilt(text);
        }
        byte[] bytes = text.getBytes(StandardCharsets.ISO_8859_1);
        return bytes.length > 300 ? java.util.Arrays.copyOf(bytes, 300) : bytes;
    }

    byte[] some() {
        StringBuilder some = new StringBuilder();
        int many = random.nextInt(6);
        for (int i = 0; i < many; i++) {
            some.append(PIECES[random.nextInt(PIECES.length)]).append(random.nextInt(3) == 0 ? " " : "");
        }
        return some.toString().getBytes(StandardCharsets.ISO_8859_1);
    }

    private String spoilt(String text) {
        StringBuilder bad = new StringBuilder(text);
        int times = 1 + random.nextInt(2);
        for (int i = 0; i < times; i++) {
            int at = random.nextInt(bad.length() + 1);
            int behind = Math.min(bad.length(), at + random.nextInt(4));
            String piece = random.nextInt(3) == 0 ? "" : PIECES[random.nextInt(PIECES.length)];
            bad.replace(at, behind, piece);
        }
        return bad.toString();
    }

    private String text() {
        out = new StringBuilder();
        int rules = random.nextInt(random.nextInt(6) == 0 ? 20 : 8);
        boolean dense = rules > 8;
        int fee = random.nextInt(3);
        int hides = random.nextInt(3);
        int adds = random.nextInt(3);
        for (int i = 0; i <= rules; i++) {
            if (fee == i) {
                put("fee");
                sum(random.nextInt(3), true);
                put(";");
            }
            if (hides == i) {
                put("hides");
                either(false);
                put(";");
            }
            if (adds == i) {
                put("adds");
                either(true);
                put(";");
            }
            if (i < rules) {
                rule(dense);
            }
        }
        return out.toString();
    }

    private void put(String token) {
        char last = out.length() == 0 ? ' ' : out.charAt(out.length() - 1);
        boolean letters = Character.isLetter(last) && Character.isLetter(token.charAt(0));
        boolean digits = Character.isDigit(last) && Character.isDigit(token.charAt(0));
        if (letters || digits || random.nextInt(12) == 0) {
            out.append(random.nextInt(5) == 0 ? '\n' : ' ');
        }
        out.append(token);
    }

    private void rule(boolean dense) {
        int fact = random.nextInt(4) == 0 ? random.nextInt(3) : random.nextInt(random.nextInt(6) == 0 ? 16 : facts);
        put("rule");
        put("" + fact);
        put("worth");
        put("" + (1 + random.nextInt(9)));
        put("bend");
        put("" + random.nextInt(random.nextInt(2) == 0 ? 100 : 6));
        if (fact > 0 && random.nextInt(dense ? 4 : 2) == 0) {
            put("by");
            numbers(fact);
        }
        if (fact > 0 && random.nextInt(dense ? 4 : 2) == 0) {
            put("unless");
            numbers(fact);
        }
        put(";");
    }

    private void numbers(int below) {
        put("" + random.nextInt(below));
        while (random.nextInt(3) == 0) {
            put(",");
            put("" + random.nextInt(below));
        }
    }

    private void either(boolean narrow) {
        int many = 1 + random.nextInt(2);
        for (int i = 0; i < many; i++) {
            if (i > 0) {
                put(random.nextInt(3) == 0 && !narrow ? "or" : "and");
            }
            while (random.nextInt(5) == 0) {
                put("not");
            }
            sum(random.nextInt(2), false);
            put(new String[] {"<", "<=", ">", ">=", "=", "#"}[random.nextInt(6)]);
            sum(random.nextInt(2), false);
        }
    }

    private void sum(int deep, boolean fee) {
        int many = 1 + random.nextInt(2);
        for (int i = 0; i < many; i++) {
            if (i > 0) {
                put(random.nextInt(2) == 0 ? "+" : "-");
            }
            one(deep, fee);
            while (random.nextInt(4) == 0) {
                put(random.nextInt(2) == 0 ? "*" : "/");
                one(deep, fee);
            }
        }
    }

    private void one(int deep, boolean fee) {
        while (random.nextInt(8) == 0) {
            put("-");
        }
        if (deep > 0 && random.nextInt(3) == 0) {
            put("(");
            sum(deep - 1, fee);
            put(")");
        } else if (random.nextInt(2) == 0) {
            put("" + random.nextInt(random.nextInt(6) == 0 ? 10000 : 12));
        } else {
            String[] names = fee ? new String[] {"who", "kind", "strength", "hour", "price", "many"}
                    : new String[] {"who", "kind", "strength", "hour", "fact", "fact"};
            put(names[random.nextInt(names.length)]);
        }
    }
}
