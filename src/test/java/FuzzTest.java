import java.lang.reflect.InvocationTargetException;
import java.lang.reflect.Method;
import java.util.ArrayList;
import java.util.HashMap;
import java.util.List;
import java.util.Map;
import java.util.Random;

/** Runs of calls by draws, each answer held against PlainCoast's. */
public final class FuzzTest {
    private static final Map<String, Method> OURS = new HashMap<>();
    private static final Map<String, Method> PLAIN = new HashMap<>();
    private static long asked;
    private static int wrong;

    private final LitStrangers x = new LitStrangers();
    private final PlainCoast plain = new PlainCoast();
    private final Random draws;
    private final Texts texts;
    private final List<String> calls = new ArrayList<>();
    private final int most;

    private FuzzTest(long seed) {
        draws = new Random(seed);
        texts = new Texts(draws);
        most = 3 + draws.nextInt(4);
    }

    public static void main(String[] args) throws Exception {
        for (Method m : LitStrangers.class.getDeclaredMethods()) {
            OURS.put(m.getName(), m);
        }
        for (Method m : PlainCoast.class.getDeclaredMethods()) {
            if (java.lang.reflect.Modifier.isPublic(m.getModifiers())) {
                PLAIN.put(m.getName(), m);
            }
        }
        int runs = args.length > 0 ? Integer.parseInt(args[0]) : 400;
        int first = args.length > 1 ? Integer.parseInt(args[1]) : 0;
        for (int i = 0; i < runs && wrong < 5; i++) {
            new FuzzTest(first + i).run();
        }
        System.out.println("FuzzTest: " + (asked - wrong) + " of " + asked + " answers are as due");
        if (wrong != 0) {
            System.exit(1);
        }
    }

    private boolean call(String name, int... args) throws Exception {
        Object[] boxed = new Object[args.length];
        StringBuilder text = new StringBuilder(name).append('(');
        for (int i = 0; i < args.length; i++) {
            boxed[i] = args[i];
            text.append(i > 0 ? ", " : "").append(args[i]);
        }
        calls.add(text.append(')').toString());
        long got;
        try {
            got = ((Number) OURS.get(name).invoke(x, boxed)).longValue();
        } catch (InvocationTargetException e) {
            System.out.println(calls + " threw " + e.getCause());
            wrong++;
            return false;
        }
        long want = ((Number) PLAIN.get(name).invoke(plain, boxed)).longValue();
        asked++;
        if (got != want) {
            wrong++;
            System.out.println(calls + " answered " + got + ", due is " + want);
            return false;
        }
        return true;
    }

    private boolean put(String text) throws Exception {
        boolean good = draws.nextInt(10) == 0 || call("end", 0);
        int[] five = new int[5];
        for (int from = 0; good && from < text.length(); from += 20) {
            for (int i = 0; i < 20; i++) {
                five[i / 4] = five[i / 4] << 8 | (from + i < text.length() ? text.charAt(from + i) : 32);
            }
            good = call("feed", five);
        }
        return good && (draws.nextInt(10) == 0 || call("end", text.length()));
    }

    private void run() throws Exception {
        boolean good = true;
        for (int i = 0; i < 2 + draws.nextInt(4) && good; i++) {
            good = call("person", draws.nextInt(draws.nextInt(4) == 0 ? 33 : 4) - draws.nextInt(30) / 29,
                    draws.nextInt(4));
        }
        while (good && calls.size() < 400) {
            good = step();
        }
    }

    private int some() {
        return draws.nextInt(12) == 0 ? draws.nextInt(14) - 2 : draws.nextInt(Math.max(1, plain.w.people.size()));
    }

    private int flag() {
        return draws.nextInt(12) == 0 ? draws.nextInt(4) - 1 : draws.nextInt(2);
    }

    private boolean step() throws Exception {
        int kind = draws.nextInt(100);
        if (kind < 4) {
            return plain.w.people.size() >= most && draws.nextInt(40) > 0
                    || call("person", draws.nextInt(6), draws.nextInt(draws.nextInt(9) == 0 ? 6 : 4) - 0);
        } else if (kind < 8) {
            return call("hear", some(), draws.nextInt(3) - draws.nextInt(12) / 11);
        } else if (kind < 16) {
            return call("talk", some(), some(), flag());
        } else if (kind < 21) {
            return call("fog", draws.nextInt(6) == 0 ? draws.nextInt(104) - 2 : plain.w.terms[0] + draws.nextInt(5),
                    flag());
        } else if (kind < 24) {
            return terms();
        } else if (kind < 30) {
            return put(texts.law()) && call("law") && call("fault")
                    && call("force", plain.w.laws.size() - 1 - draws.nextInt(8) / 7);
        } else if (kind < 35) {
            return put(texts.orders()) && call("orders") && call("fault") && call("stopped");
        } else if (kind < 36) {
            return row();
        } else if (kind < 38) {
            return call("force", draws.nextInt(8) - 2);
        } else if (kind < 44) {
            return call("asks", some(), some(), draws.nextInt(5)) && call("asks", some(), -5, draws.nextInt(7) - 1);
        } else if (kind < 50) {
            return call("send", some());
        } else if (kind < 58) {
            return light();
        } else if (kind < 62) {
            return call("dark");
        } else if (kind < 65) {
            return call("undo") && (draws.nextInt(3) > 0 || call("undo") && call("undo"));
        } else if (kind < 66) {
            return draws.nextBoolean() ? call("image", draws.nextInt(2)) : call("image", draws.nextInt(5) - 1);
        } else if (kind < 68) {
            return call("back", draws.nextInt(12) == 0 ? draws.nextInt(5) - 1 : draws.nextInt(2));
        } else if (kind < 72) {
            return winter();
        } else if (kind < 84) {
            return look();
        }
        return paper();
    }

    private boolean terms() throws Exception {
        int what = draws.nextInt(14) == 0 ? draws.nextInt(6) - 1 : draws.nextInt(3);
        int value = draws.nextInt(11) - draws.nextInt(12) / 11;
        if (what == 0 && draws.nextInt(3) == 0) {
            value = draws.nextBoolean() ? 90 + draws.nextInt(12) : 990 + draws.nextInt(11);
        }
        return call("terms", what, value);
    }

    private boolean row() throws Exception {
        if (plain.w.people.size() >= most && draws.nextInt(20) > 0) {
            return true;
        }
        StringBuilder b = new StringBuilder();
        int length = draws.nextInt(8);
        int[] below = {draws.nextInt(3) == 0 ? 33 : 4, 5, 4};
        for (int i = 0; i < length; i++) {
            b.append((char) draws.nextInt(below[i % 3]));
        }
        return put(b.toString()) && call("row") && call("salt");
    }

    private boolean light() throws Exception {
        int many = plain.crews(-1);
        if (many > 0 && draws.nextInt(4) > 0) {
            return call("light", plain.crews(draws.nextInt(many)) | (draws.nextInt(5) == 0 ? 1 << some() % 12 : 0));
        }
        return call("light", draws.nextInt(8) == 0 ? draws.nextInt(3000) - 500 : draws.nextInt(1 << most));
    }

    private boolean winter() throws Exception {
        int n = draws.nextInt(3) == 0 ? draws.nextInt(64) - 1 : 1 + draws.nextInt(9);
        boolean good = call("winter", draws.nextInt(20) == 0 ? -1 + draws.nextInt(2) * 1000002
                : draws.nextInt(1000001), n);
        for (int k = -1; k <= Math.min(n, 12) && good; k++) {
            good = call("drawn", k);
        }
        return good && call("drawn", n);
    }

    private boolean look() throws Exception {
        boolean good = call("status") && call("count", draws.nextInt(20) - 1) && call("count", 4)
                && call("count", 6) && call("count", 8 + draws.nextInt(5));
        int p = some();
        for (int what = -1; what <= 6 && good; what++) {
            good = call("of", p, what);
        }
        return good && call("salt") && call("fault") && call("stopped");
    }

    private boolean paper() throws Exception {
        int able = 0;
        for (PlainCoast.Person p : plain.w.people) {
            able += p.worth() > 0 ? 1 : 0;
        }
        if (able > 6) {
            return true;
        }
        switch (draws.nextInt(9)) {
            case 0:
                return call("last", -1) && call("last", draws.nextInt(8) - 2) && call("last", 0) && call("last", 1)
                        && call("last", 2);
            case 1:
                int n = draws.nextInt(20) == 0 ? draws.nextInt(14) - 1 : 1 + draws.nextInt(4);
                return call("cheap", n, -1) && call("cheap", n, 0) && call("cheap", n, 1)
                        && call("cheap", n, draws.nextInt(7) - 2);
            case 2:
                return call("ways", draws.nextInt(14) - 1) && call("ways", 1 + draws.nextInt(5)) && call("ways", 2);
            case 3:
                return call("late", some()) && call("late", some());
            case 4:
                return call("swaps", -1) && call("swaps", 0) && call("swaps", 1) && call("swaps", draws.nextInt(8) - 2);
            case 5:
                return call("crews", -1) && call("crews", draws.nextInt(7) - 2) && call("crews", 0);
            case 6:
                return call("share", draws.nextInt(6) - 1) && call("harm", some()) && call("harm", some());
            case 7:
                int want = draws.nextInt(15) == 0 ? draws.nextInt(14) - 1 : 1 + draws.nextInt(6);
                return able > 5 || call("hush", want, 0) && call("hush", want, 1) && call("hush", want, 2)
                        && call("hush", want, draws.nextInt(5) - 1);
            default:
                return call("who", draws.nextInt(20) == 0 ? draws.nextInt(14) - 1 : draws.nextInt(6));
        }
    }
}
