import java.nio.charset.StandardCharsets;

/** What the tests share: answers that are due, and texts put on the tape. */
final class Due {
    static final int NONE = -1;

    private final String test;
    private final int[] askedOf = new int[38];
    private int promise;
    private String sentence = "";
    private int asked;
    private int wrong;

    Due(String test) {
        this.test = test;
    }

    /** What is due from here on is that promise's, by that sentence of the document. */
    void promise(int number, String itsSentence) {
        promise = number;
        sentence = "promise " + number + " (" + itsSentence + "): ";
    }

    void due(String what, long want, long got) {
        asked++;
        askedOf[promise]++;
        if (want != got) {
            wrong++;
            System.out.println(test + ": " + sentence + what + " answered " + got + ", due is " + want);
        }
    }

    /** A test that is to go through some promises fails, if it names one of them nowhere. */
    void covers(int first, int last) {
        for (int number = first; number <= last; number++) {
            if (askedOf[number] == 0) {
                wrong++;
                System.out.println(test + ": nothing is asked of promise " + number);
            }
        }
    }

    void close() {
        System.out.println(test + ": " + (asked - wrong) + " of " + asked + " answers are as due");
        if (wrong != 0) {
            System.exit(1);
        }
    }

    static String many(String text, int times) {
        StringBuilder b = new StringBuilder();
        for (int i = 0; i < times; i++) {
            b.append(text);
        }
        return b.toString();
    }

    static void put(LitStrangers x, byte[] bytes) {
        x.end(0);
        int[] five = new int[5];
        for (int from = 0; from < bytes.length; from += 20) {
            for (int i = 0; i < 20; i++) {
                int b = from + i < bytes.length ? bytes[from + i] & 255 : 0;
                five[i / 4] = five[i / 4] << 8 | b;
            }
            x.feed(five[0], five[1], five[2], five[3], five[4]);
        }
        x.end(bytes.length);
    }

    static void put(LitStrangers x, String text) {
        put(x, text.getBytes(StandardCharsets.ISO_8859_1));
    }

    static int law(LitStrangers x, String text) {
        put(x, text);
        return x.law();
    }

    static int orders(LitStrangers x, String text) {
        put(x, text);
        return x.orders();
    }

    /** A law that is made and in force. */
    static void rule(LitStrangers x, String text) {
        x.force(law(x, text));
    }

    /** People of these roads, of the lands 0, 1, 2, 3, 0 and so on. */
    static LitStrangers coast(int... roads) {
        LitStrangers x = new LitStrangers();
        for (int i = 0; i < roads.length; i++) {
            x.person(roads[i], i % 4);
        }
        return x;
    }

    /** So many people of road 0 who are here. */
    static LitStrangers here(int people) {
        LitStrangers x = coast(new int[people]);
        for (int p = 0; p < people; p++) {
            x.send(p);
        }
        return x;
    }
}
