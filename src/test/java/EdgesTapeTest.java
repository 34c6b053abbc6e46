/** The boundary cases of promises 8 to 15: the tape, rows, laws, orders, faults, where orders stopped. */
public final class EdgesTapeTest {
    private static final Due D = new Due("EdgesTapeTest");
    private static final int NONE = -1;
    /** 5 parts. */
    private static final String FIVE = "takes 1+1+1+1+1;";
    /** Each token with 1 behind it, if the text may end there. */
    private static final String[] LAW_TOKENS = {"takes 0", "[ 0", "road 0", "+ 0", "2 0", "] 1", "* 0", "3 1", "% 0",
        "5 1", "if 0", "not 0", "( 0", "day 0", "< 0", "5 0", "or 0", "fog 0", "= 0", "1 0", ") 1", "and 0", "land 0",
        "> 0", "0 1", "; 0", "bars 1", "if 0", "[ 0", "mood 0", "- 0", "1 0", "] 0", "/ 0", "2 0", "= 0", "9 1"};
    private static final String[] ORDER_TOKENS = {"send 0", "worth 0", "0 1", "- 0", "2 1", "times 0", "1 1", "if 0",
        "( 0", "here 0", "1 0", "= 0", "0 0", ") 1", "or 0", "lit 0", "> 0", "nights 1", "; 0", "dark 1", "times 0",
        "2 1", "if 0", "done 0", "< 0", "spent 1", "; 0", "light 0", "1 1", "if 0", "day 0", "< 0", "0 1"};

    public static void main(String[] args) {
        feedBytes();
        feedFull();
        end();
        rowBytes();
        rowEnds();
        rowFull();
        rowEmpty();
        salt();
        lawRoom();
        lawEmpty();
        tokens();
        numbers();
        clauses();
        parts();
        brackets();
        fullTape();
        endOfLaw();
        manyTexts();
        ordersEmpty();
        ordersNumbers();
        ordersLimits();
        endOfOrders();
        ordersBroken();
        ordersAsked();
        ordersWholly();
        ordersDays();
        fault();
        stopped();
        D.covers(8, 15);
        D.close();
    }

    private static void due(String what, long want, long got) {
        D.due(what, want, got);
    }

    private static String many(String text, int times) {
        return Due.many(text, times);
    }

    private static void feedBytes() {
        D.promise(8, "Twenty bytes, four of each number, the highest first");
        LitStrangers x = new LitStrangers();
        due("feed", 20, x.feed(0x1E030205, 0x01010700, 0x01080302, 0x09000010, 0x03020B02));
        due("row", 6, x.row());
        int[][] people = {{30, 3, 2}, {5, 1, 1}, {7, 0, 1}, {8, 3, 2}, {9, 0, 0}, {16, 3, 2}};
        for (int p = 0; p < people.length; p++) {
            for (int what = 0; what < 3; what++) {
                due("of(" + p + ", " + what + ")", people[p][what], x.of(p, what));
            }
        }
        due("two bytes are left", 1, x.salt());
        x.feed(0x80000000, 0xFF000000, Integer.MIN_VALUE, -1, Integer.MAX_VALUE);
        x.end(3);
        due("a byte of 128", 0, x.row());
        x.feed(-1, 0, 0, 0, 0);
        due("bytes of 255", 4, x.row());
    }

    private static void feedFull() {
        D.promise(8, "NONE, if there would be more than 400");
        LitStrangers x = new LitStrangers();
        for (int i = 1; i <= 20; i++) {
            due("feed", 20 * i, x.feed(0, 0, 0, 0, 0));
        }
        due("the 401st byte", NONE, x.feed(0, 0, 0, 0, 0));
        due("it has", 400, x.count(7));
        x.end(381);
        due("401 would be", NONE, x.feed(0, 0, 0, 0, 0));
        due("it has", 381, x.count(7));
        x.end(380);
        due("400 would be", 400, x.feed(0, 0, 0, 0, 0));
        x.end(399);
        due("419 would be", NONE, x.feed(0, 0, 0, 0, 0));
        due("it is not REFUSED", 0, x.status());
        due("nor counted", 0, x.count(8) + x.count(11));
        x.end(0);
        due("empty again", 20, x.feed(0, 0, 0, 0, 0));
    }

    private static void end() {
        D.promise(9, "its first n bytes alone. NONE, if it has not so many, or n is below 0");
        LitStrangers x = new LitStrangers();
        due("an empty one", 0, x.end(0));
        due("1 of an empty one", NONE, x.end(1));
        due("-1", NONE, x.end(-1));
        x.feed(0x01010102, 0x02020303, 0x01040000, 0, 0);
        due("all", 20, x.end(20));
        due("one more", NONE, x.end(21));
        due("the most int", NONE, x.end(Integer.MAX_VALUE));
        due("the least int", NONE, x.end(Integer.MIN_VALUE));
        due("-1", NONE, x.end(-1));
        due("it has", 20, x.count(7));
        due("six", 6, x.end(6));
        due("seven, which it had", NONE, x.end(7));
        due("what comes behind six", 26, x.feed(0x05020100, 0, 0, 0, 0));
        due("nine", 9, x.end(9));
        due("it is not REFUSED", 0, x.count(8) + x.status());
        due("row", 3, x.row());
        due("the first", 1, x.of(0, 0));
        due("the second", 2, x.of(1, 0));
        due("what came behind", 5, x.of(2, 0));
    }

    private static void rowBytes() {
        D.promise(10, "one that can't be is SALT");
        byte[][] bad = {{31, 0, 0}, {(byte) 255, 0, 0}, {0, 4, 0}, {0, (byte) 128, 0}, {0, 0, 3}, {0, 0, (byte) 255}};
        for (byte[] three : bad) {
            LitStrangers x = new LitStrangers();
            Due.put(x, three);
            due("row", 0, x.row());
            due("people", 0, x.count(0));
            due("salt", 1, x.salt());
            due("status", 0, x.status());
        }
        LitStrangers x = new LitStrangers();
        Due.put(x, new byte[] {31, 3, 2, 30, 3, 2, 0, 4, 0, 0, 0, 0, 0, 0, 3});
        due("two came", 2, x.row());
        due("three of salt", 3, x.salt());
        due("ROAD 30", 30, x.of(0, 0));
        due("LAND 3", 3, x.of(0, 1));
        due("HEARD 2", 2, x.of(0, 2));
        due("at HOME", 0, x.of(0, 3));
        due("ROAD 0", 0, x.of(1, 0));
        due("HEARD 0", 0, x.of(1, 2));
        due("the TAPE is empty then", 0, x.count(7));
    }

    private static void rowEnds() {
        D.promise(10, "one within which the TAPE ends is SALT");
        for (int length = 1; length <= 7; length++) {
            LitStrangers x = new LitStrangers();
            Due.put(x, new byte[length]);
            due("people of " + length + " bytes", length / 3, x.row());
            due("salt of " + length + " bytes", length % 3 == 0 ? 0 : 1, x.salt());
        }
    }

    private static void rowFull() {
        D.promise(10, "one for which there is no room is SALT");
        LitStrangers x = Due.coast(1, 1, 1, 1, 1, 1, 1, 1, 1);
        Due.put(x, new byte[] {31, 0, 0, 5, 1, 1, 6, 2, 2, 31, 0, 0});
        due("one came", 1, x.row());
        due("three of salt", 3, x.salt());
        due("the tenth's road", 5, x.of(9, 0));
        Due.put(x, new byte[3]);
        due("nobody more", 0, x.row());
        due("which is no refusal", 0, x.status());
        due("salt", 1, x.salt());
        LitStrangers y = new LitStrangers();
        Due.put(y, new byte[400]);
        due("a full TAPE", 10, y.row());
        due("133 threes, and one that ends", 124, y.salt());
        due("the TAPE is empty then", 0, y.count(7));
    }

    private static void rowEmpty() {
        D.promise(10, "-6 the TAPE is empty");
        LitStrangers x = new LitStrangers();
        due("row", -6, x.row());
        x.feed(0, 0, 0, 0, 0);
        x.end(0);
        due("row behind end(0)", -6, x.row());
        due("status", -6, x.status());
        due("counted", 2, x.count(12));
        Due.put(x, new byte[1]);
        due("a byte is no empty TAPE", 0, x.row());
        due("row behind a row", -6, x.row());
        due("people", 0, x.count(0));
    }

    private static void salt() {
        D.promise(11, "of the latest row() that was not REFUSED (0 ahead of any)");
        LitStrangers x = new LitStrangers();
        due("ahead of any", 0, x.salt());
        x.row();
        due("behind one that was REFUSED", 0, x.salt());
        Due.put(x, new byte[] {99, 0, 0, 1});
        x.row();
        due("two", 2, x.salt());
        x.row();
        due("behind one that was REFUSED", 2, x.salt());
        x.image(0);
        Due.put(x, new byte[3]);
        x.row();
        due("none", 0, x.salt());
        x.back(0);
        due("IMAGES do not keep it", 0, x.salt());
        Due.put(x, new byte[] {99});
        x.law();
        due("law() has none", 0, x.salt());
    }

    private static void lawRoom() {
        D.promise(12, "-5 (ahead of reading it; the TAPE is empty then, too)");
        LitStrangers x = new LitStrangers();
        due("one that can't be", -6, Due.law(x, "takes ?"));
        for (int i = 0; i < 6; i++) {
            due("number", i, Due.law(x, "takes " + i));
        }
        due("a seventh", -5, Due.law(x, "takes 6"));
        due("the TAPE", 0, x.count(7));
        due("-5 ahead of -6", -5, Due.law(x, "takes ?"));
        due("the TAPE", 0, x.count(7));
        due("an empty TAPE", -5, x.law());
        due("no FAULT: it was not read", NONE, x.fault());
        due("LAWS", 6, x.count(5));
        due("by -5", 3, x.count(11));
        due("by -6", 1, x.count(12));
        due("status", -5, x.status());
        x.person(9, 0);
        x.force(5);
        due("the sixth", 5, x.asks(0, 0, 0));
        due("a seventh is none", -2, x.force(6));
        LitStrangers y = new LitStrangers();
        for (int i = 0; i < 5; i++) {
            Due.law(y, "takes 1");
        }
        y.image(1);
        Due.law(y, "takes 1");
        Due.orders(y, "dark ?");
        Due.law(y, "bars");
        due("FAULT of what was read last", 5, y.fault());
        y.back(1);
        due("room behind back()", 5, Due.law(y, "takes 1"));
    }

    private static void lawEmpty() {
        D.promise(12, "-6 (blanks alone: FAULT at the end)");
        int[] lengths = {0, 1, 20, 399, 400};
        for (int length : lengths) {
            LitStrangers x = new LitStrangers();
            due(length + " blanks", -6, Due.law(x, many(" ", length)));
            due("FAULT of " + length + " blanks", length, x.fault());
            due("the TAPE", 0, x.count(7));
            due("LAWS", 0, x.count(5));
            due("status", -6, x.status());
        }
    }

    private static void noLaw(String text, int fault) {
        LitStrangers x = new LitStrangers();
        due("law " + text, -6, Due.law(x, text));
        due("FAULT of " + text, fault, x.fault());
        due("LAWS behind " + text, 0, x.count(5));
        due("the TAPE behind " + text, 0, x.count(7));
    }

    /** A law that can be read, and how long it says that the way takes. */
    private static void aLaw(String text, int takes) {
        LitStrangers x = new LitStrangers();
        x.person(30, 3);
        due("law " + text, 0, Due.law(x, text));
        due("FAULT of " + text, NONE, x.fault());
        due("the TAPE behind " + text, 0, x.count(7));
        x.force(0);
        due("takes by " + text, takes, x.asks(0, 0, 0));
    }

    private static void tokens() {
        D.promise(12, "longest rows of letters a .. z, of digits, single other bytes, any blanks (32) between");
        aLaw("takes5", 5);
        aLaw("   takes   5   ", 5);
        aLaw("takes5if1=1or2=1and3=3", 5);
        aLaw("takes 5 ; takes 6 ;takes 7", 7);
        noLaw("takesif1=1", 0);
        noLaw("take s5", 0);
        noLaw("takess 5", 0);
        noLaw("take 5", 0);
        noLaw("takes 1 0", 8);
        noLaw("takes `5", 6);
        noLaw("takes`5", 5);
        noLaw("takes{5", 5);
        noLaw("takes 5:1", 7);
        noLaw("takes :5", 6);
        noLaw("takes\u001f5", 5);
        noLaw("takes!5", 5);
        noLaw("takes\u00005", 5);
        noLaw("takes\n5", 5);
        noLaw("takes\u00a05", 5);
        noLaw("takes\u00e15", 5);
        noLaw("Takes 5", 0);
        noLaw("takeS 5", 0);
        noLaw("bars if 1==1", 10);
        noLaw("bars if 1<>1", 10);
        noLaw("bars if 1>=1", 10);
        noLaw("takes 5\u00bd", 7);
        noLaw("takes 5\u00ff", 7);
    }

    private static void numbers() {
        D.promise(12, "NUMBER (to 1,000)");
        aLaw("takes 1000 - 990", 10);
        aLaw("takes 0", 0);
        noLaw("takes 1001", 6);
        noLaw("takes 9999", 6);
        noLaw("takes 65536", 6);
        noLaw("takes 4294967296", 6);
        noLaw("takes 4294967297", 6);
        noLaw("takes 18446744073709551617", 6);
        noLaw("takes " + many("9", 394), 6);
        noLaw("takes 1 if 1 = 1001", 15);
        noLaw("takes -1", 6);
        noLaw("takes +1", 6);
    }

    private static void clauses() {
        D.promise(12, "12 at most (FAULT at the 13th's first TOKEN)");
        aLaw("takes 5" + many(";bars", 11), 5);
        aLaw(many("bars;", 11) + "takes 5", 5);
        noLaw(many("bars;", 12) + "bars", 60);
        noLaw(many("bars;", 12) + "   bars", 63);
        noLaw(many("bars;", 12), 60);
        noLaw(many("bars;", 12) + "  ", 62);
        noLaw(many("bars;", 12) + ";", 60);
        noLaw(many("bars;", 12) + "takes 1001", 60);
        noLaw(many("bars;", 11) + "takes 1001;bars", 61);
        noLaw("bars;", 5);
        noLaw("bars;;bars", 5);
        noLaw(";", 0);
    }

    private static void parts() {
        D.promise(12, "50 PARTS that are NUMBERS and words (FAULT at the 51st)");
        aLaw("takes 1" + many("+1", 49), 50);
        noLaw("takes 1" + many("+1", 50), 106);
        aLaw("takes land" + many("+land", 49), 60);
        noLaw("takes land" + many("+land", 50), 256);
        aLaw("takes [1]" + many("+[1]", 49), 50);
        noLaw("takes [1]" + many("+[1]", 49) + "+[[1]]", 6 + 50 * 4 + 2);
        aLaw(many(FIVE, 10) + "bars", 5);
        noLaw(many(FIVE, 10) + "bars;takes 1", 10 * FIVE.length() + 11);
        noLaw(many(FIVE, 10) + "bars if 1 = 1", 10 * FIVE.length() + 8);
        noLaw(many(FIVE, 9) + "takes 1+1+1+1 if 1=1", 9 * FIVE.length() + 19);
        aLaw(many(FIVE, 9) + "takes 1+1+1 if 1=1", 3);
        noLaw("takes 1" + many("+1", 50) + "?", 106);
        noLaw("takes 1" + many("+1", 49) + "+?", 106);
    }

    private static void brackets() {
        D.promise(12, "8 brackets of both kinds within one another (FAULT at the 9th)");
        aLaw("takes " + many("[", 8) + "7" + many("]", 8), 7);
        noLaw("takes " + many("[", 9) + "7" + many("]", 9), 14);
        aLaw("takes 7 if " + many("(", 8) + "1=1" + many(")", 8), 7);
        noLaw("takes 7 if " + many("(", 9) + "1=1" + many(")", 9), 19);
        aLaw("takes 7 if " + many("(", 4) + many("[", 4) + "1" + many("]", 4) + "=1" + many(")", 4), 7);
        noLaw("takes 7 if " + many("(", 4) + many("[", 5) + "1" + many("]", 5) + "=1" + many(")", 4), 19);
        noLaw("takes 7 if " + many("(", 8) + "1=[1]" + many(")", 8), 21);
        aLaw("takes 7 if " + many("(", 7) + "1=[1]" + many(")", 7), 7);
        aLaw("takes [1]" + many("+[1]", 19), 20);
        aLaw("takes 7 if (1=1)" + many(" and (1=1)", 9), 7);
        aLaw("takes " + many("[", 8) + "7" + many("]", 8) + "+" + many("[", 8) + "7" + many("]", 8), 14);
        noLaw("takes " + many("[", 8) + "7" + many("]", 8) + "+" + many("[", 9), 32);
        aLaw("takes 7 if not " + many("(", 8) + "1=2" + many(")", 8), 7);
        noLaw("takes 7 if " + many("not (", 9) + "1=2" + many(")", 9), 55);
        noLaw("takes []", 7);
        noLaw("takes 7 if ()", 12);
    }

    private static void fullTape() {
        D.promise(12, "a TAPE of at most 400 bytes");
        aLaw(many(" ", 393) + "takes 7", 7);
        aLaw("takes 7" + many(" ", 393), 7);
        aLaw("takes " + many("0", 393) + "7", 7);
        noLaw(many(" ", 397) + "bar", 397);
        noLaw(many(" ", 395) + "takes", 400);
        noLaw("takes" + many(" ", 395), 400);
        noLaw("takes 7" + many(" ", 392) + ";", 400);
        noLaw("takes 7" + many(" ", 392) + "?", 399);
        noLaw(many("a", 400), 0);
        noLaw("bars if " + many("not ", 98), 400);
        aLaw("takes 7 if " + many("not ", 96) + "1=1", 7);
        noLaw("takes " + many("[", 394), 14);
    }

    /** Whatever stands ahead, the text may end or not, and a sign of no language can't go on. */
    private static void endings(String[] tokens, boolean ordering) {
        StringBuilder text = new StringBuilder();
        for (String token : tokens) {
            text.append(token, 0, token.length() - 2).append(' ');
            boolean whole = token.endsWith("1");
            String bare = text.substring(0, text.length() - 1);
            ending(bare, whole ? NONE : bare.length(), ordering);
            ending(text.toString(), whole ? NONE : text.length(), ordering);
            ending(text + "?", text.length(), ordering);
            ending(text + "a b", text.length(), ordering);
        }
    }

    private static void ending(String text, int fault, boolean ordering) {
        LitStrangers x = Due.coast(0, 0);
        int answer = ordering ? Due.orders(x, text) : Due.law(x, text);
        due("whether " + text + " is read", fault == NONE ? 0 : 1, answer == -6 ? 1 : 0);
        due("FAULT of " + text, fault, x.fault());
    }

    private static void endOfLaw() {
        D.promise(12, "FAULT: the first TOKEN that can't go on there (the end's: the TEXT's length)");
        endings(LAW_TOKENS, false);
        noLaw("takesz 5", 0);
        noLaw("ztakes 5", 0);
        noLaw("atakes 5", 0);
        aLaw("takes 1/0;takes 5", 5);
        aLaw("takes 5 if not(not 1=1)", 5);
        aLaw("takes 5 if not(not(not 1=2))", 5);
        aLaw("takes 5 if not(1=1) or 1=1", 5);
    }

    private static void endOfOrders() {
        D.promise(13, "FAULT: the first TOKEN that can't go on there (the end's: the TEXT's length)");
        endings(ORDER_TOKENS, true);
    }

    private static void manyTexts() {
        D.promise(12, "12 CLAUSES, 50 PARTS, of each TEXT");
        LitStrangers x = Due.coast(30);
        x.image(0);
        for (int i = 0; i < 12; i++) {
            due("50 PARTS", 0, Due.law(x, "takes 1" + many("+1", 41) + " if 1=1 and 2=1+1 and not 3=4+" + i % 2));
            x.force(0);
            due("what it tells, " + i, 42, x.asks(0, 0, 0));
            x.back(0);
            due("a TEXT that can't be", -6, Due.law(x, many("bars if 1=1;", 12) + "bars"));
        }
    }

    private static void noOrders(String text, int fault) {
        LitStrangers x = Due.coast(0);
        due("orders " + text, -6, Due.orders(x, text));
        due("FAULT of " + text, fault, x.fault());
        due("stopped by " + text, NONE, x.stopped());
        due("the TAPE behind " + text, 0, x.count(7));
        due("NIGHTS behind " + text, 0, x.count(3));
        due("status", -6, x.status());
    }

    /** Orders that can be run on a coast of two people at home, whose roads are 0. */
    private static void anOrder(String text, int run) {
        LitStrangers x = Due.coast(0, 0);
        due("orders " + text, run, Due.orders(x, text));
        due("FAULT of " + text, NONE, x.fault());
        due("stopped by " + text, NONE, x.stopped());
        due("the TAPE behind " + text, 0, x.count(7));
        due("what can be undone behind " + text, Math.min(16, run), x.count(6));
    }

    private static void ordersEmpty() {
        D.promise(13, "-6 (as for law())");
        int[] lengths = {0, 1, 400};
        for (int length : lengths) {
            noOrders(many(" ", length), length);
        }
        noOrders("takes 5", 0);
        noOrders("bars", 0);
        noOrders("send road", 5);
        noOrders("send 0 if fog = 1", 10);
        noOrders("dark;", 5);
        noOrders("dark 0", 5);
        LitStrangers x = Due.coast(0);
        due("read ahead of running: nothing is run", -6, Due.orders(x, "dark;dark;send 0;?"));
        due("NIGHTS", 0, x.count(3));
        due("what can be undone", 0, x.count(6));
        due("ORDERS' words are not LAWS'", -6, Due.law(x, "takes lit"));
    }

    private static void ordersNumbers() {
        D.promise(13, "TIMES: a NUMBER 1 .. 20; P: a NUMBER 0 .. 9");
        anOrder("dark times 1", 1);
        anOrder("dark times 20", 20);
        noOrders("dark times 0", 11);
        noOrders("dark times 21", 11);
        noOrders("dark times 1001", 11);
        noOrders("dark times 4294967297", 11);
        noOrders("dark times [2]", 11);
        noOrders("dark times done", 11);
        noOrders("dark times", 10);
        noOrders("dark times 2 times 2", 13);
        noOrders("dark if 1 = 1 times 2", 14);
        anOrder("dark if worth 0 = 2 and here 0 = 0", 1);
        anOrder("dark if worth 9 = 0 - 1 and here 9 = 0 - 1", 1);
        anOrder("dark if worth 2 = 0 - 1 and here 2 = 0 - 1", 1);
        noOrders("dark if worth 10 = 1", 14);
        noOrders("dark if here 10 = 1", 13);
        noOrders("dark if here 4294967296 = 1", 13);
        noOrders("dark if here done = 1", 13);
        noOrders("dark if worth = 1", 14);
        noOrders("dark if worth", 13);
        noOrders("send 1001", 5);
        LitStrangers ten = Due.here(10);
        due("the tenth", 1, Due.orders(ten, "light 512 if worth 9 = 2 and here 9 = 1"));
    }

    private static void ordersLimits() {
        D.promise(13, "12 CLAUSES, 50 PARTS (P, TIMES aside), 8 brackets");
        anOrder("dark" + many(";dark", 11), 12);
        noOrders("dark" + many(";dark", 12), 60);
        anOrder("dark times 20" + many(";dark times 20", 11), 240);
        anOrder("dark if 49" + many("+here 9", 48) + "=1", 1);
        noOrders("dark if 49" + many("+here 9", 49) + "=0", 10 + 49 * 7 + 1);
        noOrders("dark if 49" + many("+here 9", 49), 10 + 49 * 7);
        noOrders("dark if 49" + many("+here 9", 50), 10 + 49 * 7 + 1);
        anOrder(many("dark times 20;", 10) + "dark times 20 if 1" + many("+0", 48) + "=1", 220);
        noOrders(many("dark times 20;", 10) + "dark times 20 if 1" + many("+0", 49) + "=1", 140 + 18 + 98 + 1);
        anOrder("send " + many("[", 8) + "0" + many("]", 8), 1);
        noOrders("send " + many("[", 9) + "0" + many("]", 9), 13);
        anOrder("dark if " + many("(", 8) + "1=1" + many(")", 8), 1);
        noOrders("dark if " + many("(", 8) + "[1]=1" + many(")", 8), 16);
    }

    private static void stops(String text, int clause) {
        LitStrangers x = Due.coast(0, 0);
        due("orders " + text, -3, Due.orders(x, text));
        due("stopped by " + text, clause, x.stopped());
        due("FAULT of " + text, NONE, x.fault());
        due("NIGHTS behind " + text, 0, x.count(3));
        due("DAY behind " + text, 0, x.count(14));
        due("at HOME behind " + text, 0, x.of(0, 3));
        due("what can be undone behind " + text, 0, x.count(6));
        due("status", -3, x.status());
        due("one call is REFUSED by -3", 1, x.count(10));
        due("none by -1, -2", 0, x.count(8) + x.count(9));
    }

    private static void ordersBroken() {
        D.promise(13, "Beyond 1,000,000,000 either way, or divided by 0; / cut towards 0, % what is left then");
        anOrder("send 1000*1000*1000 - 1000*1000*1000", 1);
        stops("send [1000*1000*1000 + 1] * 0", 0);
        anOrder("send 0 - 1000*1000*1000 + 1000*1000*1000", 1);
        stops("send [0 - 1000*1000*1000 - 1] * 0", 0);
        stops("send 1000*1000*1000*1000*0", 0);
        stops("send 0/0", 0);
        stops("send 0%0", 0);
        stops("send 1/[day-day]", 0);
        anOrder("send [0-7]/2 + 3", 1);
        anOrder("send 7/[0-2] + 3", 1);
        anOrder("send [0-7]%2 + 1", 1);
        anOrder("send 7%[0-2] - 1", 1);
        anOrder("dark if 1/0 = 1", 0);
        anOrder("dark if not 1/0 = 1", 0);
        anOrder("dark if 1 = 1 or 1/0 = 1", 1);
        anOrder("dark if 1/0 = 1 or 1 = 1", 0);
        anOrder("dark if 1 = 2 or 1/0 = 1", 0);
        anOrder("dark if not (1 = 2 and 1/0 = 1)", 1);
        anOrder("dark if not (1 = 1 and 1/0 = 1)", 0);
        anOrder("dark if 1000*1000*1000 > 0", 1);
        anOrder("dark if 1000*1000*1000 + 1 > 0", 0);
        anOrder("dark if [1000*1000*1000 + 1] / 2 > 0", 0);
        anOrder("dark if 0 - 1000*1000*1000 < 0", 1);
        anOrder("dark if 0 - 1000*1000*1000 - 1 < 0", 0);
    }

    private static void ordersAsked() {
        D.promise(13, "each time its \"if\" is asked (not run, if it is not so or BROKEN), then its SUM");
        anOrder("send 1/0 if 1 = 2", 0);
        anOrder("send 9 if 1/0 = 1", 0);
        anOrder("light 0 times 20 if done > 0", 0);
        anOrder("dark times 20 if nights < 7", 7);
        anOrder("dark times 20 if day % 2 = 0;dark times 3", 4);
        anOrder("send done times 2", 2);
        anOrder("send 0;send 1;light 1 + lit times 2", 4);
        anOrder("dark times 3;dark times 20 if done < 5 and nights = done", 5);
        stops("send done times 3", 0);
        stops("dark times 3;send 2", 1);
        stops("light 0", 0);
        stops("light 1000 + 24", 0);
        stops("light 0 - 1", 0);
        stops("light 4", 0);
        stops("light 1", 0);
        stops("send 0 - 1", 0);
        stops("send 10", 0);
        stops("send 1000*1000*1000", 0);
        stops("light 1000*1000*1000", 0);
        stops("send 0;light 1;light 1", 2);
        stops("send 0;send 0", 1);
        anOrder("send 0;dark if here 0 = 1;light 1;dark if here 0 = 0 and worth 0 = 0", 4);
        anOrder("dark if spent = 0;send 0;dark;dark if spent = 1;dark if spent = 2", 5);
    }

    private static void ordersWholly() {
        D.promise(13, "all is as it was ahead of it");
        LitStrangers x = Due.here(3);
        x.talk(0, 1, 1);
        x.person(2, 3);
        x.send(3);
        for (int i = 0; i < 15; i++) {
            x.dark();
        }
        due("what can be undone", 16, x.count(6));
        due("SPENT", 2 + 15 * 4 - 2, x.count(4));
        due("one of them can't be", -3, Due.orders(x, "light 1;dark times 20;light 4;send 0"));
        due("stopped", 3, x.stopped());
        due("HEARD", 0, x.of(1, 2));
        due("HERE", 2, x.of(0, 3));
        due("LIT", 0, x.count(2));
        due("DARK", 15, x.count(3));
        due("SPENT", 60, x.count(4));
        due("DAY", 15, x.count(14));
        due("what can be undone", 16, x.count(6));
        for (int i = 15; i > 0; i--) {
            due("undo", 2, x.undo());
            due("NIGHTS", i - 1, x.count(3));
        }
        due("undo the sending", 0, x.undo());
        due("at HOME", 0, x.of(3, 3));
        due("undo", -3, x.undo());
    }

    private static void ordersDays() {
        D.promise(13, "as send(), light(), dark() are REFUSED: DAY 999");
        LitStrangers x = Due.here(1);
        x.terms(0, 997);
        due("three NIGHTS", -3, Due.orders(x, "dark times 3"));
        due("stopped", 0, x.stopped());
        due("DAY", 997, x.count(14));
        due("two NIGHTS, then to LIGHT", -3, Due.orders(x, "dark times 2;light 1"));
        due("stopped", 1, x.stopped());
        due("two NIGHTS", 2, Due.orders(x, "dark;light 1"));
        due("DAY", 999, x.count(14));
        due("not run, so not REFUSED", 0, Due.orders(x, "dark if day < 999"));
        x.person(7, 0);
        due("one can be sent for on DAY 999", 1, Due.orders(x, "send 1"));
        due("till", 1006, x.of(1, 4));
    }

    private static void fault() {
        D.promise(14, "of the latest law(), orders() that read a TEXT; NONE without");
        LitStrangers x = new LitStrangers();
        due("ahead of any", NONE, x.fault());
        Due.law(x, "takes ?");
        due("of a LAW", 6, x.fault());
        Due.put(x, "?");
        x.row();
        due("a ROW is no TEXT", 6, x.fault());
        x.row();
        due("nor is one that is REFUSED", 6, x.fault());
        Due.orders(x, "dark");
        due("of ORDERS that have none", NONE, x.fault());
        Due.orders(x, "dark if");
        due("of ORDERS", 7, x.fault());
        Due.orders(x, "send 9");
        due("of ORDERS that can't be", NONE, x.fault());
        x.orders();
        due("of an empty TEXT", 0, x.fault());
        x.image(0);
        Due.law(x, "takes");
        due("at the end", 5, x.fault());
        x.back(0);
        due("IMAGES do not keep it", 5, x.fault());
        Due.law(x, "takes 5");
        due("none", NONE, x.fault());
    }

    private static void stopped() {
        D.promise(15, "Which CLAUSE of the latest orders() could not be. NONE");
        LitStrangers x = Due.coast(0);
        due("ahead of any", NONE, x.stopped());
        Due.orders(x, "send 9");
        due("the first", 0, x.stopped());
        Due.law(x, "?");
        due("a LAW has none", 0, x.stopped());
        Due.orders(x, many("dark;", 11) + "send 9");
        due("the twelfth", 11, x.stopped());
        x.image(0);
        Due.orders(x, "?");
        due("that could not be read", NONE, x.stopped());
        Due.orders(x, "dark times 4;send 9;send 8");
        due("the second", 1, x.stopped());
        x.back(0);
        due("IMAGES do not keep it", 1, x.stopped());
        x.send(9);
        due("send() has none", 1, x.stopped());
        Due.orders(x, "dark");
        due("all could be", NONE, x.stopped());
        Due.orders(x, "send 9;dark");
        x.orders();
        due("an empty TEXT", NONE, x.stopped());
    }
}
