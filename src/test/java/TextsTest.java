/** Promises 8 to 15: the tape, rows, laws, orders, faults and where orders stopped. */
public final class TextsTest {
    private static final Due D = new Due("TextsTest");

    public static void main(String[] args) {
        tape();
        rows();
        lawFaults();
        limits();
        lawRoom();
        orderFaults();
        sums();
        tests();
        orders();
        stopped();
        ordersUndone();
        D.close();
    }

    private static void due(String what, long want, long got) {
        D.due(what, want, got);
    }

    private static String many(String text, int times) {
        return Due.many(text, times);
    }

    private static void tape() {
        LitStrangers x = new LitStrangers();
        for (int i = 1; i <= 20; i++) {
            due("feed", 20 * i, x.feed(-1, 0, 0, 0, 0));
        }
        due("feed", -1, x.feed(0, 0, 0, 0, 0));
        due("count(7)", 400, x.count(7));
        due("end", -1, x.end(401));
        due("end", -1, x.end(-1));
        due("end", 381, x.end(381));
        due("feed", -1, x.feed(0, 0, 0, 0, 0));
        due("end", -1, x.end(382));
        due("end", 0, x.end(0));
        due("none is refused", 0, x.count(8));
        due("status", 0, x.status());
        x.feed(0x1E030201, 0x02010000, 0, 0, 0);
        x.end(6);
        due("row", 2, x.row());
        due("road", 30, x.of(0, 0));
        due("land", 3, x.of(0, 1));
        due("heard", 2, x.of(0, 2));
        due("road", 1, x.of(1, 0));
        due("land", 2, x.of(1, 1));
        due("heard", 1, x.of(1, 2));
    }

    private static void rows() {
        LitStrangers x = new LitStrangers();
        due("an empty tape", -6, x.row());
        due("status", -6, x.status());
        Due.put(x, new byte[] {31, 0, 0, 0, 4, 0, 0, 0, 3, (byte) 200, 0, 0, 5, 1});
        due("salt alone", 0, x.row());
        due("salt", 5, x.salt());
        due("status", 0, x.status());
        due("the tape is empty", 0, x.count(7));
        Due.put(x, new byte[33]);
        due("row", 10, x.row());
        due("no room is salt", 1, x.salt());
        due("an empty tape", -6, x.row());
        due("salt stays", 1, x.salt());
        Due.put(x, new byte[4]);
        due("row", 0, x.row());
        due("salt", 2, x.salt());
    }

    private static void noLaw(String text, int fault) {
        LitStrangers x = new LitStrangers();
        due("law " + text, -6, Due.law(x, text));
        due("fault of " + text, fault, x.fault());
        due("the tape behind " + text, 0, x.count(7));
        due("laws behind " + text, 0, x.count(5));
        due("count(12)", 1, x.count(12));
    }

    private static void aLaw(String text) {
        LitStrangers x = new LitStrangers();
        due("law " + text, 0, Due.law(x, text));
        due("fault of " + text, -1, x.fault());
        due("the tape behind " + text, 0, x.count(7));
        due("status", 0, x.status());
    }

    private static void lawFaults() {
        noLaw("", 0);
        noLaw("   ", 3);
        noLaw("takes", 5);
        noLaw("takes  ", 7);
        noLaw("takes 5;", 8);
        noLaw("takes 5;;", 8);
        noLaw(";takes 5", 0);
        noLaw(" Takes 5", 1);
        noLaw("takesx 5", 0);
        noLaw("takesz 5", 0);
        noLaw("takes 1001", 6);
        noLaw("takes 99999999999999999999", 6);
        noLaw("takes -5", 6);
        noLaw("takes (5)", 6);
        noLaw("takes [5)", 8);
        noLaw("takes [5", 8);
        noLaw("takes 5]", 7);
        noLaw("takes 5 5", 8);
        noLaw("takes 5 + ", 10);
        noLaw("takes 5 times 2", 8);
        noLaw("takes lit", 6);
        noLaw("takes if", 6);
        noLaw("bars 5", 5);
        noLaw("bars if", 7);
        noLaw("bars if 5", 9);
        noLaw("bars if 5 <", 11);
        noLaw("bars if 5 < 6 < 7", 14);
        noLaw("bars if 5 <= 6", 11);
        noLaw("bars if [5 < 6]", 11);
        noLaw("bars if (5) < 6", 10);
        noLaw("bars if (5 < 6", 14);
        noLaw("bars if 5 < 6)", 13);
        noLaw("bars if not", 11);
        noLaw("bars if 1=1 or", 14);
        noLaw("bars if 1=1 and and", 16);
        noLaw("bars if 1=1 if 1=1", 12);
        noLaw("takes\t5", 5);
        noLaw("takes 5\u00e9", 7);
        aLaw("takes5");
        aLaw("  takes  [ road+1 ]*2  ;bars if not not(1=1)or 2>1and 3<4 ");
        aLaw("takes 0001000");
        aLaw("takes person+road+land+heard+other+theirs+far+day+fog+mood");
        aLaw("bars;bars;costs 1 if 1=1");
    }

    private static void limits() {
        aLaw("bars" + many(";bars", 11));
        noLaw("bars" + many(";bars", 12), 60);
        noLaw("bars" + many(";bars", 11) + "; ?", 61);
        noLaw("bars" + many(";bars", 11) + ";", 60);
        aLaw("takes 1" + many("+1", 49));
        noLaw("takes 1" + many("+1", 50), 106);
        aLaw("takes " + many("[", 8) + "road" + many("]", 8));
        noLaw("takes " + many("[", 9) + "road" + many("]", 9), 14);
        aLaw("bars if " + many("(", 7) + "[1]=1" + many(")", 7));
        noLaw("bars if " + many("(", 8) + "[1]=1" + many(")", 8), 16);
        noLaw("bars if " + many("(", 9), 16);
        aLaw("bars if ((1=1) and (1=1)) or " + many("(", 8) + "1=1" + many(")", 8));
        aLaw("bars if " + many("not ", 96) + "1=1");
        aLaw("bars if " + many("1=1 and ", 24) + "day=1;bars");
        noLaw("takes 1 if " + many("1=1 and ", 24) + "day=1;bars", 207);
        noLaw("takes 1;bars if " + many("1=1 and ", 24) + "day=1", 16 + 24 * 8 + 4);
    }

    private static void lawRoom() {
        LitStrangers x = new LitStrangers();
        Due.law(x, "takes ?");
        for (int i = 0; i < 6; i++) {
            due("law", i, Due.law(x, "takes " + i));
        }
        due("count(5)", 6, x.count(5));
        due("a seventh", -5, Due.law(x, "takes"));
        due("the tape", 0, x.count(7));
        due("fault", -1, x.fault());
        due("status", -5, x.status());
    }

    private static void noOrders(String text, int fault) {
        LitStrangers x = new LitStrangers();
        due("orders " + text, -6, Due.orders(x, text));
        due("fault of " + text, fault, x.fault());
        due("stopped", -1, x.stopped());
        due("the tape behind " + text, 0, x.count(7));
    }

    private static void orderFaults() {
        noOrders("", 0);
        noOrders(" ", 1);
        noOrders("takes 5", 0);
        noOrders("send", 4);
        noOrders("send road", 5);
        noOrders("dark 5", 5);
        noOrders("dark times", 10);
        noOrders("dark times 0", 11);
        noOrders("dark times 21", 11);
        noOrders("dark times day", 11);
        noOrders("dark if 1=1 times 2", 12);
        noOrders("send worth", 10);
        noOrders("send worth 10", 11);
        noOrders("send here day", 10);
        noOrders("send worth[1]", 10);
        noOrders("dark" + many(";dark", 12), 60);
        noOrders("dark if " + many("1", 1) + many("+here 1", 50) + "=1", 9 + 49 * 7 + 1);
    }

    /** What a law's sum comes to, when it is asked of road 7. */
    private static void sum(String sum, int want) {
        LitStrangers x = new LitStrangers();
        x.person(7, 2);
        Due.rule(x, "costs 77;costs " + sum);
        due(sum, want, x.asks(0, 0, 1));
    }

    private static void sums() {
        sum("2+3*4", 14);
        sum("[2+3]*4", 20);
        sum("20-3-4", 13);
        sum("100/7/2", 7);
        sum("100%7*2", 4);
        sum("100 + [0-7]/2", 97);
        sum("100 + [0-7]%2", 99);
        sum("100 + 7%[0-2]", 101);
        sum("1/0", 77);
        sum("1%0", 77);
        sum("0*[1/0]", 77);
        sum("1000*1000*1000/1000/1000", 999);
        sum("5+[1000*1000*1000]*0", 5);
        sum("5+[1000*1000*1000+1]*0", 77);
        sum("5+[0-1000*1000*1000]*0", 5);
        sum("5+[0-1000*1000*1000-1]*0", 77);
        sum("1000*1000*1000*1000*1000*1000*1000*0", 77);
        sum("road*land+1", 15);
    }

    private static void test(String test, int want) {
        LitStrangers x = new LitStrangers();
        x.person(7, 2);
        Due.rule(x, "bars if " + test);
        due(test, want, x.asks(0, 0, 3));
    }

    private static void tests() {
        test("1<2", 1);
        test("2<2", 0);
        test("3>2", 1);
        test("2>2", 0);
        test("2=2", 1);
        test("1=2 or 2=2 and 1=2", 0);
        test("1=1 or 2=2 and 1=2", 1);
        test("(1=1 or 2=2) and 1=2", 0);
        test("not 1=2", 1);
        test("not not 1=2", 0);
        test("not 1=1 or 1=1", 1);
        test("not (1=1 or 1=1)", 0);
        test("1/0=1", 0);
        test("not 1/0=1", 0);
        test("1=1 or 1/0=1", 1);
        test("1/0=1 or 1=1", 0);
        test("not(1=2 and 1/0=1)", 1);
        test("1=1 and not 1/0=1", 0);
        test("1=2 and 1/0=1 or 1=1", 1);
        test("1=2 or 1=2 or 1=1 or 1/0=1", 1);
        test("1=1 and 1=1 and 1=2 and 1/0=1 or 3=3", 1);
    }

    private static void orders() {
        LitStrangers x = new LitStrangers();
        x.person(1, 0);
        x.person(0, 1);
        due("orders", 3, Due.orders(x, "dark times 3"));
        due("day", 3, x.count(14));
        due("only while it is so", 2, Due.orders(x, "dark times 20 if day < 5"));
        due("none", 0, Due.orders(x, "send 9 if 1/0 = 1;light 0 if 1 = 2"));
        due("status", 0, x.status());
        due("done, worth, here", 6, Due.orders(x, "send 0 if done = 0;send done;dark if done = 2 and here 0 = 0 and "
                + "here 1 = 1;light 1 if here 0 = 1 and worth 0 = 2;dark if worth 0 = 0 and here 0 = 0;"
                + "dark if worth 9 = 0 - 1 and here 9 = 0-1"));
        due("lit, nights, spent", 1, Due.orders(x, "dark if lit = 1 and nights = 8 and spent = 5"));
        due("spent", 6, x.count(4));
        due("count(6)", 12, x.count(6));
        LitStrangers y = new LitStrangers();
        due("twelve by twenty", 240, Due.orders(y, "dark times 20" + many(";dark times 20", 11)));
    }

    private static void stopped() {
        LitStrangers x = new LitStrangers();
        x.person(0, 0);
        due("stopped", -1, x.stopped());
        String[] bad = {"send 1", "light 0", "light 1000+24", "light 0-1", "light 2", "send 1/0", "send 0-1", "light 1"};
        for (String one : bad) {
            due("orders " + one, -3, Due.orders(x, "dark;dark times 2;" + one));
            due("stopped", 2, x.stopped());
            due("fault", -1, x.fault());
            due("day", 0, x.count(14));
            due("nights", 0, x.count(3));
            due("count(6)", 0, x.count(6));
        }
        due("one refusal a call", bad.length, x.count(10));
        due("no other", 0, x.count(8) + x.count(9));
        x.terms(0, 990);
        due("behind 999", -3, Due.orders(x, "dark times 10"));
        due("stopped", 0, x.stopped());
        due("orders", 9, Due.orders(x, "dark times 9"));
        due("stopped", -1, x.stopped());
        Due.orders(x, "dark");
        due("stopped", 0, x.stopped());
        Due.orders(x, "?");
        due("a fault stops nowhere", -1, x.stopped());
    }

    private static void ordersUndone() {
        LitStrangers x = new LitStrangers();
        x.person(0, 0);
        x.send(0);
        x.dark();
        due("orders", -3, Due.orders(x, "dark times 20;send 0"));
        due("what can be undone is as it was", 2, x.count(6));
        due("undo", 2, x.undo());
        due("undo", 0, x.undo());
        due("undo", -3, x.undo());
        due("orders", 3, Due.orders(x, "send 0;light 1;dark"));
        due("undo", 2, x.undo());
        due("undo", 1, x.undo());
        due("undo", 0, x.undo());
        due("at home", 0, x.of(0, 3));
    }
}
