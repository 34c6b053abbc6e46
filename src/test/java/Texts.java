import java.util.Random;

/** Texts by draws: mostly such as can be read, some spoilt. */
final class Texts {
    private static final String[] LAW_WORDS = {"person", "road", "land", "heard", "other", "theirs", "far", "day",
        "fog", "mood"};
    private static final String[] ORDER_WORDS = {"day", "lit", "nights", "done", "spent"};
    private final Random draws;
    private boolean ordering;

    Texts(Random draws) {
        this.draws = draws;
    }

    String law() {
        ordering = false;
        StringBuilder b = new StringBuilder();
        int clauses = clauses();
        for (int i = 0; i < clauses; i++) {
            String verb = pick("takes", "costs", "lodges", "spoils", "spoils", "bars", "bars", "takes");
            b.append(i > 0 ? ";" : "").append(verb);
            if (!verb.equals("bars")) {
                b.append(' ').append(sum(2));
            }
            if (draws.nextInt(3) > 0 || verb.equals("bars")) {
                b.append(" if ").append(test(2));
            }
        }
        return spoil(b.toString());
    }

    String orders() {
        ordering = true;
        StringBuilder b = new StringBuilder();
        int clauses = clauses();
        for (int i = 0; i < clauses; i++) {
            String verb = pick("send", "light", "dark", "send");
            b.append(i > 0 ? ";" : "").append(verb);
            if (verb.equals("send")) {
                b.append(' ').append(draws.nextInt(6) > 0 ? "" + draws.nextInt(8) : sum(1));
            } else if (verb.equals("light")) {
                b.append(' ').append(draws.nextInt(6) > 0 ? "" + (1 << draws.nextInt(7)) : sum(1));
            }
            if (draws.nextInt(5) == 0) {
                b.append(" times ").append(1 + draws.nextInt(draws.nextInt(9) == 0 ? 21 : 4));
            }
            if (draws.nextInt(3) == 0) {
                b.append(" if ").append(test(2));
            }
        }
        return spoil(b.toString());
    }

    private int clauses() {
        return draws.nextInt(12) == 0 ? 10 + draws.nextInt(4) : 1 + draws.nextInt(4);
    }

    private String pick(String... any) {
        return any[draws.nextInt(any.length)];
    }

    private String part(int depth) {
        if (depth > 0 && draws.nextInt(5) == 0) {
            return "[" + sum(depth - 1) + "]";
        }
        if (draws.nextInt(2) == 0) {
            return "" + (draws.nextInt(12) == 0 ? draws.nextInt(1003) : draws.nextInt(6));
        }
        if (!ordering) {
            return LAW_WORDS[draws.nextInt(LAW_WORDS.length)];
        }
        if (draws.nextInt(2) == 0) {
            return pick("worth ", "here ") + draws.nextInt(draws.nextInt(15) == 0 ? 12 : 7);
        }
        return ORDER_WORDS[draws.nextInt(ORDER_WORDS.length)];
    }

    private String sum(int depth) {
        StringBuilder b = new StringBuilder(part(depth));
        for (int i = draws.nextInt(4) - 1; i > 0; i--) {
            b.append(pick("+", " - ", "*", "/", "%", "+")).append(part(depth));
        }
        if (draws.nextInt(25) == 0) {
            b.append("*1000*1000").append(pick("*1000", "*999+999", "*100"));
        }
        return b.toString();
    }

    private String test(int depth) {
        StringBuilder b = new StringBuilder(plain(depth));
        for (int i = draws.nextInt(4) - 1; i > 0; i--) {
            b.append(pick(" or ", " and ")).append(plain(depth));
        }
        return b.toString();
    }

    private String plain(int depth) {
        if (draws.nextInt(6) == 0) {
            return "not " + plain(depth);
        }
        if (depth > 0 && draws.nextInt(5) == 0) {
            return "(" + test(depth - 1) + ")";
        }
        return sum(1) + pick("<", " > ", "=", " = ") + sum(1);
    }

    private String spoil(String text) {
        StringBuilder b = new StringBuilder(text);
        int spoils = draws.nextInt(4) == 0 ? 1 + draws.nextInt(2) : 0;
        for (int i = 0; i < spoils && b.length() > 0; i++) {
            int at = draws.nextInt(b.length());
            int how = draws.nextInt(4);
            if (how == 0) {
                b.deleteCharAt(at);
            } else if (how == 1) {
                b.setLength(at);
            } else if (how == 2) {
                b.insert(at, pick(" ", "9", "a", "(", ")", "[", "]", ";", "not ", " if ", "A", "\u00e9", "-"));
            } else {
                b.setCharAt(at, (char) draws.nextInt(256));
            }
        }
        if (b.length() > 400) {
            b.setLength(400);
        }
        return b.toString();
    }
}
