/** Where the document leaves a reading open: what is built (NOTES.md), under its sentence; README's example. */
public final class ReadingsTest {
    private static final int NONE = Due.NONE;
    private static final Due D = new Due("ReadingsTest");

    public static void main(String[] args) {
        example();
        peopleWhoAreNot();
        sameAgain();
        beenThere();
        numbersInTexts();
        limitsOfTexts();
        broken();
        foldedTests();
        textsNotRead();
        ordersAreOneCall();
        notRefused();
        lodging();
        undoLeaves();
        asksOfAnybody();
        lastDay();
        whoIsWithout();
        hushed();
        winterFog();
        imagesLeave();
        D.close();
    }

    private static void due(String what, long want, long got) {
        D.due(what, want, got);
    }

    private static void example() {
        D.promise(1, "README's example");
        LitStrangers coast = new LitStrangers();
        int anna = coast.person(0, 0);
        int bert = coast.person(2, 1);
        due("Anna", 0, anna);
        due("Bert", 1, bert);
        due("talk", 0, coast.talk(anna, bert, 1));
        due("nights", 1, coast.last(LitStrangers.NONE));
        due("the first crew", 1, coast.last(0));
        due("send", 0, coast.send(anna));
        due("light", 2, coast.light(1 << anna));
        due("undo", 1, coast.undo());
        due("feed", 20, coast.feed(0x6461726B, 0x2074696D, 0x65732033, 0, 0));
        due("end", 12, coast.end(12));
        due("orders", 3, coast.orders());
    }

    private static void peopleWhoAreNot() {
        D.promise(18, "there is no such PERSON: any number that nobody has");
        LitStrangers x = Due.coast(0, 0);
        for (int p : new int[] {Integer.MIN_VALUE, NONE, 2, 9, 10, Integer.MAX_VALUE}) {
            due("send(" + p + ")", -2, x.send(p));
            due("hear(" + p + ", 0)", -2, x.hear(p, 0));
            due("talk(" + p + ", 0, 1)", -2, x.talk(p, 0, 1));
            due("talk(0, " + p + ", 1)", -2, x.talk(0, p, 1));
        }
        due("force(-2)", -2, x.force(-2));
        due("force(6)", -2, x.force(6));
        due("back(2)", -1, x.back(2));
        due("light(-1): bits beyond 9", -1, x.light(-1));
        due("light(1 | 1 << 9): nobody", -2, x.light(1 | 1 << 9));
        due("light(1 | 1 << 10): bits beyond 9 ahead of nobody", -1, x.light(1 | 1 << 10));
    }

    private static void sameAgain() {
        D.promise(21, "nothing that was ahead of one that was not REFUSED, though it changes nothing");
        for (int how = 0; how < 4; how++) {
            LitStrangers x = Due.here(2);
            due("two", 2, x.count(6));
            if (how == 0) {
                due("HEARD as it was", 0, x.hear(0, 0));
            } else if (how == 1) {
                due("MOOD as it was", 0, x.terms(2, 0));
            } else if (how == 2) {
                due("DAY as it was", 0, x.terms(0, 0));
            } else {
                Due.put(x, new byte[] {31, 0, 0});
                due("SALT alone is no REFUSED row()", 0, x.row());
                due("salt()", 1, x.salt());
            }
            due("none, way " + how, 0, x.count(6));
            due("undo, way " + how, -3, x.undo());
        }
        D.promise(7, "-3 (DAY, when one is ON THE ROAD): the same DAY, too; the others can be");
        LitStrangers x = Due.coast(3);
        x.send(0);
        due("the same DAY", -3, x.terms(0, 0));
        due("no DAY", -1, x.terms(0, 1000));
        due("FOGGY", 3, x.terms(1, 10));
        due("MOOD", 0, x.terms(2, 9));
    }

    private static void beenThere() {
        D.promise(4, "HEARD of one who has BEEN there stays as it was");
        LitStrangers x = Due.here(3);
        x.hear(0, 1);
        x.hear(1, 1);
        x.talk(0, 1, 1);
        x.talk(0, 2, 1);
        due("light by two who TALK", 2, x.light(3));
        due("they do not spoil one another", 1, x.of(1, 2));
        due("the third has HEARD", 1, x.of(2, 2));
        due("WORTH of one who has BEEN", 0, x.of(1, 5));
        due("she may TALK", 0, x.talk(1, 2, 1));
        due("who came behind it is not spoilt by it", 1, x.of(2, 2));
    }

    private static void numbersInTexts() {
        D.promise(12, "NUMBER (to 1,000): longest rows of digits, zeros ahead of it, too");
        LitStrangers x = Due.coast(9);
        Due.rule(x, "takes 0000000000000000000000000012");
        due("takes 0 .. 012", 12, x.asks(0, 0, 0));
        due("letters and digits are two TOKENS", 1, Due.law(x, "takes5if1=1and2>1"));
        due("1000", 2, Due.law(x, "takes 1000"));
        due("1001", -6, Due.law(x, "takes 1001"));
        due("FAULT", 6, x.fault());
        due("18446744073709551617 does not become 1", -6, Due.law(x, "takes 18446744073709551617"));
        due("FAULT", 6, x.fault());
        D.promise(13, "TIMES: a NUMBER 1 .. 20; P: a NUMBER 0 .. 9: zeros ahead of it, too");
        due("dark times 003", 3, Due.orders(x, "dark times 003 if worth 000 = 2"));
        due("dark times 4294967297", -6, Due.orders(x, "dark times 4294967297"));
        due("FAULT", 11, x.fault());
    }

    private static void limitsOfTexts() {
        D.promise(12, "12 CLAUSES, 50 PARTS of a TEXT; brackets of both kinds together");
        LitStrangers x = Due.coast(9);
        String clause = "takes 1+1+1+1";
        String full = Due.many(clause + ";", 11) + clause;
        due("48 PARTS in 12 CLAUSES", 0, Due.law(x, full));
        due("50 PARTS", 1, Due.law(x, full + "+1+1"));
        due("51 PARTS", -6, Due.law(x, full + "+1+1+1"));
        due("FAULT", full.length() + 5, x.fault());
        due("a 13th CLAUSE", -6, Due.law(x, full + " ;  takes 1"));
        due("FAULT at its first TOKEN", full.length() + 4, x.fault());
        due("nothing behind the 12th's ;", -6, Due.law(x, full + "; "));
        due("FAULT at the end", full.length() + 2, x.fault());
        due("4 and 4", 2, Due.law(x, "bars if ((((1=[[[[1]]]]))))"));
        due("5 and 4", -6, Due.law(x, "bars if (((((1=[[[[1]]]])))))"));
        due("FAULT at the 9th", 18, x.fault());
        due("eight, and eight again beside them", 3,
                Due.law(x, "takes [[[[[[[[1]]]]]]]]+[[[[[[[[1]]]]]]]] if [[[[[[[[1]]]]]]]]=1"));
    }

    private static void broken() {
        D.promise(17, "Beyond 1,000,000,000 either way, on the way, too, a SUM, a TEST is BROKEN");
        LitStrangers x = Due.coast(9);
        Due.rule(x, "takes 1;takes 1000*1000*1000/1000/1000");
        due("1,000,000,000 on the way", 60, x.asks(0, 0, 0));
        Due.rule(x, "takes 1;takes [1000*1000*1000+1]/1000/1000");
        due("1,000,000,001 on the way", 1, x.asks(0, 0, 0));
        Due.rule(x, "takes 1;takes 0-[0-1000*1000*1000]-1000*1000*1000");
        due("-1,000,000,000 on the way", 0, x.asks(0, 0, 0));
        Due.rule(x, "takes 1;takes 0*[0-1000*1000*1000-1]");
        due("-1,000,000,001 on the way", 1, x.asks(0, 0, 0));
        Due.rule(x, "takes 1;takes 2 if 1/0=1/0");
        due("divided by 0", 1, x.asks(0, 0, 0));
        Due.rule(x, "takes [0-7]/2+10;costs [0-7]%2+10;lodges 7/[0-2]+10");
        due("/ cut towards 0", 7, x.asks(0, 0, 0));
        due("% what is left then", 9, x.asks(0, 0, 1));
        due("/ by less than 0", 7, x.asks(0, 0, 2));
    }

    private static void foldedTests() {
        D.promise(17, "or, and ask what stands behind only if it can still matter");
        String[] so = {"1=1 or 1/0=1", "not (1=2 and 1/0=1)", "1=2 and 1/0=1 or 1=1", "1=1 or 1/0=1 and 1/0=2",
            "1=1 or 1=2 or 1/0=1", "not not 1=1 or 1%0=0"};
        String[] notSo = {"1/0=1 or 1=1", "1=2 and 1/0=1", "1=1 and 1/0=1 or 1=1", "not 1/0=1", "not (1/0=1 and 1=2)",
            "1=2 or 1/0=1 or 1=1", "1=1 and 1=2 and 1/0=1"};
        for (String test : so) {
            LitStrangers x = Due.coast(9);
            Due.rule(x, "bars if " + test);
            due(test, 1, x.asks(0, 0, 3));
        }
        for (String test : notSo) {
            LitStrangers x = Due.coast(9);
            Due.rule(x, "bars if " + test);
            due(test, 0, x.asks(0, 0, 3));
        }
    }

    private static void textsNotRead() {
        D.promise(14, "that read a TEXT: law() without room did not");
        LitStrangers x = new LitStrangers();
        for (int i = 0; i < 6; i++) {
            due("law " + i, i, Due.law(x, "bars"));
        }
        due("orders", -6, Due.orders(x, "dark ; send"));
        due("FAULT", 11, x.fault());
        due("no room", -5, Due.law(x, "what"));
        due("FAULT as it was", 11, x.fault());
        due("the TAPE is empty", 0, x.count(7));
        D.promise(15, "Which CLAUSE of the latest orders() could not be: of those that were no TEXT none");
        due("orders", -3, Due.orders(x, "dark;send 0"));
        due("stopped", 1, x.stopped());
        due("law() leaves it", -5, Due.law(x, "bars"));
        due("stopped", 1, x.stopped());
        due("orders", -6, Due.orders(x, "dark;"));
        due("stopped", NONE, x.stopped());
    }

    private static void ordersAreOneCall() {
        D.promise(36, "how many calls were REFUSED: an order is no call");
        LitStrangers x = Due.coast(0);
        due("light by bits beyond 9", -3, Due.orders(x, "send 0;light 512+512"));
        due("-3", 1, x.count(10));
        due("-1", 0, x.count(8));
        due("status", -3, x.status());
        due("send nobody", -3, Due.orders(x, "send 0;send 0-1"));
        due("-3", 2, x.count(10));
        due("-2", 0, x.count(9));
        due("a BROKEN SUM", -3, Due.orders(x, "send 1/0"));
        due("-3", 3, x.count(10));
        due("a BROKEN if is not run", 0, Due.orders(x, "send 1/0 if 1/0=1"));
        due("none is undone", 0, x.count(6));
    }

    private static void notRefused() {
        D.promise(37, "feed(), end() and what is asked are not REFUSED by NONE");
        LitStrangers x = Due.coast(0);
        due("dark", 1, x.dark());
        due("end(1)", NONE, x.end(1));
        for (int i = 0; i < 20; i++) {
            due("feed", 20 * i + 20, x.feed(0, 0, 0, 0, 0));
        }
        due("feed", NONE, x.feed(0, 0, 0, 0, 0));
        due("asks", NONE, x.asks(1, 0, 0));
        due("last", NONE, x.last(-2));
        due("status", 0, x.status());
        due("-1", 0, x.count(8));
    }

    private static void lodging() {
        D.promise(19, "A NIGHT goes by behind it: by what is HEARD then, on that DAY, in its FOG; who comes pays none");
        LitStrangers x = Due.here(2);
        x.person(1, 0);
        x.person(0, 0);
        x.fog(1, 1);
        x.talk(0, 1, 1);
        Due.rule(x, "takes road;costs 0;lodges 10*heard+day+50*fog+1");
        due("who comes then", 0, x.send(2));
        due("light", 2, x.light(1));
        due("one of two is HERE, HEARD 1, DAY 0", 11, x.count(4));
        due("she is HERE", 2, x.of(2, 3));
        due("dark", 1, x.dark());
        due("DAY 1 in FOG: 62 and 52", 125, x.count(4));
    }

    private static void undoLeaves() {
        D.promise(21, "a deed is undone, not what was told since");
        LitStrangers x = Due.here(2);
        due("light", 2, x.light(1));
        due("talk", 0, x.talk(0, 1, 1));
        due("fog", 0, x.fog(7, 1));
        due("law", 0, Due.law(x, "bars"));
        due("force", NONE, x.force(0));
        due("image", 0, x.image(0));
        due("undo", 1, x.undo());
        due("TALK", 1, x.count(1));
        due("FOG", 1, x.fog(7, 1));
        due("LAWS", 1, x.count(5));
        due("in FORCE", 0, x.count(13));
        due("what can be undone", 2, x.count(6));
        due("undo again", 0, x.undo());
        due("back", 0, x.back(0));
        due("as it was kept, LIT", 1, x.count(2));
        due("nothing, behind back()", -3, x.undo());
    }

    private static void asksOfAnybody() {
        D.promise(17, "by how much one SPOILS another one, whether they TALK or not; other aside for the others");
        LitStrangers x = Due.here(2);
        due("no TALKS", 1, x.asks(0, 1, 4));
        x.light(1);
        due("who has BEEN there spoils", 1, x.asks(0, 1, 4));
        due("who has BEEN there is spoilt", 1, x.asks(1, 0, 4));
        due("TAKES of one who has BEEN there", 0, x.asks(0, 99, 0));
        due("nobody", NONE, x.asks(0, 2, 4));
        D.promise(29, "how much WORTH others lose, if one had LIT it now, wherever one is");
        x.talk(0, 1, 1);
        x.person(30, 0);
        x.talk(1, 2, 1);
        due("of one at HOME", 1, x.harm(2));
        Due.rule(x, "spoils 2");
        x.hear(1, 1);
        due("no more than she has", 1, x.harm(2));
        due("who has BEEN there loses none", 2, x.harm(1));
    }

    private static void lastDay() {
        D.promise(27, "on paper: NIGHT k is DAY and k, also behind 999");
        LitStrangers x = Due.here(2);
        x.person(1, 0);
        x.terms(0, 999);
        due("crews", 2, x.crews(NONE));
        due("last", 3, x.last(NONE));
        due("light", -3, x.light(1));
        due("dark", -3, x.dark());
        due("send", 1, x.send(2));
        due("till a DAY that does not come", 1000, x.of(2, 4));
        due("last, one ON THE ROAD", 3, x.last(NONE));
    }

    private static void whoIsWithout() {
        D.promise(31, "without whom LAST is just n: neither to light it nor to spoil");
        LitStrangers x = Due.coast(0, 1);
        x.talk(0, 1, 1);
        due("LAST", 1, x.last(NONE));
        due("without 0 none, who would be first", 1, x.who(0));
        due("without 1 one", 2, x.who(1));
        LitStrangers y = Due.coast(0, 0, 1);
        y.talk(0, 2, 1);
        due("LAST: 1, then 0", 2, y.last(NONE));
        due("without 0: 1, then 2, who has HEARD nothing", 5, y.who(2));
        due("without 1: 0 alone", 2, y.who(1));
        due("the LAND of 0", 0, y.share(0));
        due("the LAND of 1", 1, y.share(1));
    }

    private static void hushed() {
        D.promise(30, "PEOPLE, if they TALK to nobody: on paper, any PEOPLE, none of them told");
        LitStrangers x = Due.coast(0, 1, 2);
        x.talk(0, 1, 1);
        x.talk(1, 2, 1);
        due("LAST", 1, x.last(NONE));
        due("three NIGHTS: one", 1, x.hush(3, 0));
        due("whoever is in the midst", 2, x.hush(3, 1));
        due("in one way", 1, x.hush(3, 2));
        due("two NIGHTS: one", 1, x.hush(2, 0));
        due("the first", 1, x.hush(2, 1));
        due("or whoever is in the midst", 2, x.hush(2, 2));
        due("one NIGHT: none", 0, x.hush(1, 0));
        due("nobody as bits", 0, x.hush(1, 1));
        due("in one way", 1, x.hush(1, 2));
        due("four NIGHTS: not by 2", NONE, x.hush(4, 0));
        due("the TALKS stay", 2, x.count(1));
        due("LAST stays", 1, x.last(NONE));
        x.send(0);
        x.light(1);
        due("LAST, 0 has BEEN there, 1 has HEARD", 0, x.last(NONE));
        due("to hush cannot take back what is HEARD", NONE, x.hush(1, 0));
    }

    private static void winterFog() {
        D.promise(32, "FOG as told aside: the FOG drawn is what bars sees; TAKES is asked this DAY, FOG as told");
        LitStrangers x = Due.coast(0);
        x.fog(0, 1);
        x.terms(1, 0);
        due("FOG as told, none drawn", 1, x.winter(1, 1));
        Due.rule(x, "takes 3 if fog=1;takes 0 if fog=0");
        due("takes 3 in FOG as told", 0, x.winter(1, 3));
        due("she is HERE then", 1, x.winter(1, 4));
        due("on NIGHT 3", 1, x.drawn(3));
        Due.rule(x, "takes 0;bars if fog=1");
        due("not BARRED where none is drawn", 1, x.winter(1, 1));
        LitStrangers y = Due.coast(0, 0);
        y.terms(1, 10);
        due("FOG is drawn: both", 1, y.winter(0, 60));
        due("NIGHT 0", 3, y.drawn(0));
        Due.rule(y, "bars if fog=1");
        due("BARRED in FOG that is drawn", 0, y.winter(0, 60));
        due("a REFUSED one leaves the latest", -1, y.winter(0, 61));
        due("NIGHT 59", 0, y.drawn(59));
    }

    private static void imagesLeave() {
        D.promise(35, "all but the TAPE, FAULT, SALT, where ORDERS stopped, the latest WINTER: as they are now");
        LitStrangers x = Due.coast(0);
        due("image", 0, x.image(1));
        x.winter(0, 2);
        Due.put(x, new byte[] {0, 0});
        x.row();
        Due.orders(x, "dark;dark;light 1");
        due("law", -6, Due.law(x, "x"));
        x.feed(0, 0, 0, 0, 0);
        int refused = x.count(12) + x.count(10);
        due("back", 0, x.back(1));
        due("TAPE", 20, x.count(7));
        due("FAULT", 0, x.fault());
        due("SALT", 1, x.salt());
        due("stopped", 2, x.stopped());
        due("WINTER", 0, x.drawn(1));
        due("REFUSED", refused, x.count(12) + x.count(10));
        due("two", 2, refused);
    }
}
