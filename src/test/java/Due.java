import java.nio.charset.StandardCharsets;

/** What the tests share: answers that are due, and texts put on the tape. */
final class Due {
    private final String test;
    private int asked;
    private int wrong;

    Due(String test) {
        this.test = test;
    }

    void due(String what, long want, long got) {
        asked++;
        if (want != got) {
            wrong++;
            System.out.println(test + ": " + what + " answered " + got + ", due is " + want);
        }
    }

    void close() {
        System.out.println(test + ": " + (asked - wrong) + " of " + asked + " answers are as due");
        if (wrong != 0) {
            System.exit(1);
        }
    }

    static void put(LitStrangers x, byte[] bytes) {
        x.end(0);
        int[] five = new int[5];
        for (int from = 0; from < bytes.length; from += 20) {
            for (int i = 0; i < 20; i++) {
                int b = from + i < bytes.length ? bytes[from + i] & 255 : 0;
                five[i / 4] = five[i / 4] << 8 | b;
            }
            x.feed(five[0], five[1], five[2], five[3], five[4]);
        }
        x.end(bytes.length);
    }

    static void put(LitStrangers x, String text) {
        put(x, text.getBytes(StandardCharsets.ISO_8859_1));
    }

    static int law(LitStrangers x, String text) {
        put(x, text);
        return x.law();
    }

    static int orders(LitStrangers x, String text) {
        put(x, text);
        return x.orders();
    }

    /** A law that is made and in force. */
    static void rule(LitStrangers x, String text) {
        x.force(law(x, text));
    }
}
