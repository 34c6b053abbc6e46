/** The boundary cases of promises 16 to 21: the law in force, what it tells, sending, lighting, dark nights, undoing. */
public final class EdgesDeedsTest {
    private static final Due D = new Due("EdgesDeedsTest");
    private static final int NONE = -1;
    private static final int[] NOBODY_OF_TWO = {Integer.MIN_VALUE, -2, -1, 2, 9, 10, 32, Integer.MAX_VALUE};

    public static void main(String[] args) {
        force();
        asksNumbers();
        asksNearest();
        asksWithout();
        asksLastThatHolds();
        asksBroken();
        asksWords();
        asksFog();
        sendRefused();
        sendTakes();
        sendDays();
        lightNumbers();
        lightWorth();
        lightFog();
        lightWho();
        lightDays();
        lightSpoils();
        lightSpoilsTen();
        lightLodges();
        dark();
        darkArrivals();
        undoKinds();
        undoSixteen();
        undoAll();
        undoCut();
        undoNotCut();
        D.covers(16, 21);
        D.close();
    }

    private static void due(String what, long want, long got) {
        D.due(what, want, got);
    }

    private static void force() {
        D.promise(16, "NONE: none; which was. -2");
        LitStrangers x = new LitStrangers();
        due("no LAW yet", -2, x.force(0));
        due("NONE", NONE, x.force(NONE));
        due("which is no refusal", 0, x.status());
        for (int i = 0; i < 6; i++) {
            Due.law(x, "takes " + (10 + i));
            due("a LAW is not in FORCE by itself", NONE, x.count(13));
            due("the next one", -2, x.force(i + 1));
        }
        int[] none = {Integer.MIN_VALUE, -3, -2, 6, 7, Integer.MAX_VALUE};
        for (int law : none) {
            due("force(" + law + ")", -2, x.force(law));
            due("FORCE stays", NONE, x.count(13));
        }
        due("the last", NONE, x.force(5));
        due("the same", 5, x.force(5));
        due("the first", 5, x.force(0));
        due("a LAW there is not", -2, x.force(6));
        due("FORCE stays", 0, x.count(13));
        due("NONE", 0, x.force(NONE));
        due("NONE again", NONE, x.force(NONE));
    }

    private static void asksNumbers() {
        D.promise(17, "what 0 .. 4; NONE (the same one)");
        LitStrangers x = Due.coast(7, 9);
        for (int what = 0; what < 4; what++) {
            int want = what == 2 ? 1 : what == 3 ? 0 : 7;
            due("other aside, the same", want, x.asks(0, 0, what));
            for (int nobody : NOBODY_OF_TWO) {
                due("other aside, " + nobody, want, x.asks(0, nobody, what));
                due("of " + nobody, NONE, x.asks(nobody, 0, what));
            }
        }
        due("SPOILS", 1, x.asks(0, 1, 4));
        due("SPOILS oneself", NONE, x.asks(0, 0, 4));
        for (int nobody : NOBODY_OF_TWO) {
            due("SPOILS " + nobody, NONE, x.asks(0, nobody, 4));
            due(nobody + " SPOILS", NONE, x.asks(nobody, 0, 4));
        }
        int[] whats = {Integer.MIN_VALUE, -1, 5, Integer.MAX_VALUE};
        for (int what : whats) {
            due("what " + what, NONE, x.asks(0, 1, what));
        }
        due("none is REFUSED", 0, x.count(8) + x.count(9) + x.status());
        x.send(0);
        due("ON THE ROAD", 7, x.asks(0, 0, 0));
    }

    /** What a law tells of person 0 (road 30) on one (road 0). */
    private static void told(String law, int what, int want) {
        LitStrangers x = Due.coast(30, 0);
        x.force(Due.law(x, law));
        due(law, want, x.asks(0, 1, what));
    }

    private static void asksNearest() {
        D.promise(17, "TAKES 0 .. 60 (else the nearest); COSTS 0 .. 999; LODGES for 0 .. 99; SPOILS by 0 .. 2");
        String[] verbs = {"takes", "costs", "lodges"};
        int[] most = {60, 999, 99};
        for (int what = 0; what < 3; what++) {
            told(verbs[what] + " " + most[what], what, most[what]);
            told(verbs[what] + " " + (most[what] - 1), what, most[what] - 1);
            told(verbs[what] + " " + (most[what] + 1), what, most[what]);
            told(verbs[what] + " 1000*1000*1000", what, most[what]);
            told(verbs[what] + " 0", what, 0);
            told(verbs[what] + " 1", what, 1);
            told(verbs[what] + " 0-1", what, 0);
            told(verbs[what] + " 0-1000*1000*1000", what, 0);
        }
        int[] spoils = {0, 1, 2, 2};
        for (int by = 0; by < spoils.length; by++) {
            told("spoils " + by, 4, spoils[by]);
        }
        told("spoils 0-1", 4, 0);
        told("bars", 3, 1);
        told("bars if 1=1", 3, 1);
        told("bars if 1=2", 3, 0);
    }

    private static void asksWithout() {
        D.promise(17, "ROAD without; ROAD without; 1 without; 1 without");
        int[] without = {30, 30, 1, 0, 1};
        String[] laws = {"takes 5", "costs 5", "lodges 5", "bars", "spoils 2"};
        int[] with = {5, 5, 5, 1, 2};
        for (int law = 0; law < 5; law++) {
            for (int what = 0; what < 5; what++) {
                told(laws[law], what, law == what ? with[what] : without[what]);
                told(laws[law] + " if 1 = 2", what, without[what]);
                told(laws[law] + " if 1/0 = 1", what, without[what]);
            }
        }
        told("takes 1/0", 0, 30);
        told("costs 1/0", 1, 30);
        told("lodges 1/0", 2, 1);
        told("spoils 1/0", 4, 1);
    }

    private static void asksLastThatHolds() {
        D.promise(17, "the last that HOLDS: its \"if\" is so, and neither that nor its SUM is BROKEN");
        told("takes 5;takes 6", 0, 6);
        told("takes 6;takes 5", 0, 5);
        told("takes 5;takes 6 if 1=2", 0, 5);
        told("takes 5;takes 6 if 1/0=1", 0, 5);
        told("takes 5;takes 6 if not 1/0=1", 0, 5);
        told("takes 5;takes 1/0", 0, 5);
        told("takes 5;takes 1/0 if 1=1", 0, 5);
        told("takes 5;costs 6", 0, 5);
        told("takes 5 if 1=2;takes 6 if 1=1;takes 7 if 2=1", 0, 6);
        told("bars;bars if 1=2", 3, 1);
        told("bars if 1=2;bars", 3, 1);
        told("bars if 1/0=1", 3, 0);
        told("takes 0" + Due.many(";bars", 10) + ";takes 12", 0, 12);
    }

    private static void asksBroken() {
        D.promise(17, "Beyond 1,000,000,000 either way, or divided by 0 (/ cut towards 0, % what is left then)");
        told("takes 1000*1000*1000-1000*1000*1000+5", 0, 5);
        told("takes [1000*1000*1000+1]*0+5", 0, 30);
        told("takes 0-1000*1000*1000+1000*1000*1000+5", 0, 5);
        told("takes [0-1000*1000*1000-1]*0+5", 0, 30);
        told("takes [0-1000]*1000*1000*0+5", 0, 5);
        told("takes 1000*1000*1000*1000*1000*0+5", 0, 30);
        told("takes 1000*1000*1000*2-1000*1000*1000", 0, 30);
        told("takes 5/0", 0, 30);
        told("takes 5%0", 0, 30);
        told("takes 0*[5/0]", 0, 30);
        told("takes [0-7]/2+10", 0, 7);
        told("takes 7/[0-2]+10", 0, 7);
        told("takes [0-7]/[0-2]+10", 0, 13);
        told("takes [0-7]%2+10", 0, 9);
        told("takes 7%[0-2]+10", 0, 11);
        told("takes [0-7]%[0-2]+10", 0, 9);
        told("bars if 1=1 or 1/0=1", 3, 1);
        told("bars if 1/0=1 or 1=1", 3, 0);
        told("bars if 1=2 or 1/0=1", 3, 0);
        told("bars if not(1=2 and 1/0=1)", 3, 1);
        told("bars if not(1=1 and 1/0=1)", 3, 0);
        told("bars if 1=2 and 1/0=1 or 1=1", 3, 1);
        told("bars if 1=1 or 1=2 and 1/0=1", 3, 1);
        told("bars if (1=1 or 1/0=1) and (1=2 or 2=2)", 3, 1);
        told("bars if 1000*1000*1000=1000*1000*1000", 3, 1);
        told("bars if 1000*1000*1000+1>0", 3, 0);
        told("bars if 0-1000*1000*1000-1<0", 3, 0);
    }

    private static void asksWords() {
        D.promise(17, "other, theirs, far -1; heard, day, fog -1 of \"spoils\"");
        LitStrangers x = Due.coast(30, 29);
        x.hear(0, 2);
        x.terms(0, 999);
        x.terms(2, 9);
        Due.rule(x, "costs 500+other*100+theirs*10+far");
        due("all of them", 500 - 111, x.asks(0, 1, 1));
        Due.rule(x, "lodges day/10;costs day;takes mood*2+heard*3");
        due("DAY 999 by 10", 99, x.asks(0, 1, 2));
        due("DAY 999", 999, x.asks(0, 1, 1));
        due("MOOD 9, HEARD 2", 24, x.asks(0, 1, 0));
        Due.rule(x, "spoils 0;spoils 2 if heard = 0-1 and day = 0-1 and fog = 0-1");
        due("-1 all three", 2, x.asks(0, 1, 4));
        Due.rule(x, "spoils 0;spoils 2 if other = 1 and theirs = 1 and far = 29 and person = 0 and road = 30 and mood = 9");
        due("the other one's", 2, x.asks(0, 1, 4));
        due("the other way round", 0, x.asks(1, 0, 4));
        x.terms(0, 0);
        Due.rule(x, "bars if day = 0 and heard = 2 and land = 0");
        due("one", 1, x.asks(0, 1, 3));
        due("another", 0, x.asks(1, 0, 3));
    }

    private static void asksFog() {
        D.promise(17, "fog: 1, 0; FOG is told of DAYS 0 .. 99");
        LitStrangers x = Due.coast(0);
        Due.rule(x, "takes 5+fog;costs 5+fog;lodges 5+fog;bars if fog = 1");
        for (int day = 0; day < 100; day++) {
            x.fog(day, 1);
        }
        int[] days = {0, 99, 100, 999};
        for (int day : days) {
            x.terms(0, day);
            int fog = day < 100 ? 1 : 0;
            for (int what = 0; what < 4; what++) {
                due("DAY " + day + ", " + what, what == 3 ? fog : 5 + fog, x.asks(0, 0, what));
            }
        }
        x.terms(0, 50);
        x.fog(50, 0);
        due("none on that DAY", 5, x.asks(0, 0, 0));
    }

    private static void sendRefused() {
        D.promise(18, "-2; -3 (not at HOME)");
        LitStrangers x = Due.coast(0, 1);
        for (int nobody : NOBODY_OF_TWO) {
            due("send(" + nobody + ")", -2, x.send(nobody));
        }
        due("by -2", NOBODY_OF_TWO.length, x.count(9));
        due("status", -2, x.status());
        x.send(0);
        due("one who is HERE", -3, x.send(0));
        x.send(1);
        due("one ON THE ROAD", -3, x.send(1));
        x.light(1);
        due("one who has BEEN there", -3, x.send(0));
        due("status", -3, x.status());
        due("SPENT", 1, x.count(4));
        due("only what was done can be undone", 3, x.count(6));
    }

    private static void sendTakes() {
        D.promise(18, "ON THE ROAD till DAY and what it TAKES (HERE at once, if that is 0)");
        LitStrangers x = Due.coast(0, 1, 30);
        Due.rule(x, "costs 0 if person = 0;costs 999 if person = 1;costs 1000 if person = 2;takes 60 if person = 2");
        due("the least", 0, x.send(0));
        due("HERE at once", 2, x.of(0, 3));
        due("SPENT", 0, x.count(4));
        due("the most", 999, x.send(1));
        due("a DAY", 1, x.of(1, 4));
        due("SPENT", 999, x.count(4));
        due("the nearest", 999, x.send(2));
        due("sixty DAYS", 60, x.of(2, 4));
        due("SPENT", 1998, x.count(4));
        x.force(NONE);
        for (int day = 1; day <= 60; day++) {
            x.dark();
            due("DAY " + day, day < 60 ? 1 : 2, x.of(2, 3));
        }
    }

    private static void sendDays() {
        D.promise(18, "on the last DAY too");
        LitStrangers x = Due.coast(1, 0);
        x.terms(0, 999);
        due("send", 1, x.send(0));
        due("till behind 999", 1000, x.of(0, 4));
        due("HERE at once", 0, x.send(1));
        due("HERE", 2, x.of(1, 3));
        due("no NIGHT goes by", -3, x.dark());
        due("undo", 0, x.undo());
        due("undo", 0, x.undo());
        due("HOME", 0, x.of(0, 3));
    }

    private static void lightNumbers() {
        D.promise(19, "-1 (none; bits beyond 9); -2; -3, the first in that order");
        LitStrangers x = Due.here(2);
        int[] bad = {0, -1, -2, -1024, 1024, 1025, 1027, 2048, 65536, Integer.MIN_VALUE, Integer.MAX_VALUE};
        for (int crew : bad) {
            due("light(" + crew + ")", -1, x.light(crew));
        }
        int[] nobody = {4, 5, 7, 512, 513, 1023};
        for (int crew : nobody) {
            due("light(" + crew + ")", -2, x.light(crew));
        }
        x.hear(0, 2);
        due("-2 ahead of -3", -2, x.light(5));
        due("-3", -3, x.light(1));
        x.terms(0, 999);
        due("-1 on DAY 999", -1, x.light(0));
        due("-1 on DAY 999", -1, x.light(1024));
        due("-2 on DAY 999", -2, x.light(4));
        due("by -1", bad.length + 2, x.count(8));
        due("by -2", nobody.length + 2, x.count(9));
        due("none was LIT", 0, x.count(2));
        LitStrangers ten = Due.here(10);
        due("bit 9", 2, ten.light(512));
        due("all others", 18, ten.light(511));
    }

    private static void lightWorth() {
        D.promise(19, "2 of WORTH together at least; of WORTH above 0");
        LitStrangers x = Due.here(6);
        x.hear(1, 1);
        x.hear(2, 1);
        x.hear(3, 2);
        due("1", -3, x.light(2));
        due("0", -3, x.light(8));
        due("2 with one of WORTH 0", -3, x.light(9));
        due("1 and 1 with one of WORTH 0", -3, x.light(14));
        due("1 and 1", 2, x.light(6));
        due("2", 2, x.light(1));
        due("more than need be", 4, x.light(48));
        due("LIT", 3, x.count(2));
        due("DAY", 3, x.count(14));
    }

    private static void lightFog() {
        D.promise(19, "4 in FOG");
        LitStrangers x = Due.here(4);
        x.hear(2, 1);
        x.hear(3, 1);
        int[] days = {0, 99};
        for (int day : days) {
            x.terms(0, day);
            x.fog(day, 1);
            due("2 on DAY " + day, -3, x.light(1));
            due("3 on DAY " + day, -3, x.light(5));
            x.image(0);
            due("4 by two on DAY " + day, 4, x.light(3));
            x.back(0);
            due("4 by three on DAY " + day, 4, x.light(13));
            x.back(0);
            due("6 on DAY " + day, 6, x.light(15));
            x.back(0);
        }
        x.terms(0, 100);
        due("no FOG on DAY 100", 2, x.light(1));
        due("none on DAY 101", 2, x.light(12));
    }

    private static void lightWho() {
        D.promise(19, "PEOPLE who are HERE, not BARRED");
        LitStrangers x = Due.coast(0, 0, 2, 0);
        x.send(0);
        x.send(2);
        x.send(3);
        due("at HOME", -3, x.light(2));
        due("ON THE ROAD", -3, x.light(4));
        due("HERE and at HOME", -3, x.light(3));
        due("HERE and ON THE ROAD", -3, x.light(5));
        Due.rule(x, "bars if person = 3");
        due("BARRED", -3, x.light(8));
        due("HERE and BARRED", -3, x.light(9));
        due("HERE", 2, x.light(1));
        due("BEEN there", -3, x.light(1));
        x.force(NONE);
        due("HERE and BEEN there", -3, x.light(9));
        due("BARRED no more", 2, x.light(8));
        due("HERE by now", 2, x.light(4));
    }

    private static void lightDays() {
        D.promise(19, "-3 (DAY 999, too)");
        LitStrangers x = Due.here(2);
        x.terms(0, 999);
        due("DAY 999", -3, x.light(1));
        due("HERE still", 2, x.of(0, 3));
        due("SPENT", 0, x.count(4));
        x.terms(0, 998);
        due("DAY 998", 2, x.light(1));
        due("DAY", 999, x.count(14));
        due("DAY 999", -3, x.light(2));
    }

    private static void lightSpoils() {
        D.promise(19, "others who TALK to that one and have not BEEN there have HEARD as much more (2 at most)");
        LitStrangers x = Due.here(7);
        Due.rule(x, "spoils theirs");
        // lands 0, 1, 2, 3, 0, 1, 2
        for (int p = 1; p < 6; p++) {
            x.talk(0, p, 1);
        }
        x.hear(5, 1);
        x.talk(6, 2, 1);
        x.image(0);
        x.light(64 + 1);
        int[] heard = {0, 1, 2, 2, 0, 2, 0};
        for (int p = 0; p < 7; p++) {
            due("HEARD of " + p, heard[p], x.of(p, 2));
        }
        due("one of WORTH 0 behind it", -3, x.light(4));
        x.talk(1, 0, 1);
        x.talk(1, 6, 1);
        x.talk(1, 4, 1);
        due("one of WORTH 1 and one of 2", 3, x.light(16 + 2));
        due("who had BEEN there", 0, x.of(0, 2));
        due("who had BEEN there", 0, x.of(6, 2));
        due("who lit it too", 0, x.of(4, 2));
        x.back(0);
        x.hear(3, 2);
        x.light(1);
        due("2 at most", 2, x.of(3, 2));
        due("the one who does not TALK to that one", 0, x.of(6, 2));
        LitStrangers y = Due.here(3);
        y.talk(0, 2, 1);
        y.talk(1, 2, 1);
        y.light(3);
        due("by each of these", 2, y.of(2, 2));
    }

    private static void lightLodges() {
        D.promise(19, "SPENT is more by what all LODGE for who are HERE, behind it; then it is the next DAY");
        LitStrangers x = Due.coast(0, 0, 0, 1, 5);
        for (int p = 0; p < 4; p++) {
            x.send(p);
        }
        due("SPENT", 1, x.count(4));
        x.talk(0, 1, 1);
        x.fog(1, 1);
        Due.rule(x, "lodges 10*heard+2+day+50*fog");
        x.light(1);
        due("12 and 2; not who lit it, comes then, is at HOME", 1 + 14, x.count(4));
        due("HERE by now", 2, x.of(3, 3));
        x.dark();
        due("in FOG of DAY 1", 15 + 63 + 53 + 53, x.count(4));
        LitStrangers ten = Due.here(10);
        Due.rule(ten, "lodges 100");
        ten.dark();
        due("ten of 99", 990, ten.count(4));
        Due.rule(ten, "lodges 0");
        ten.dark();
        due("ten of 0", 990, ten.count(4));
    }

    private static void dark() {
        D.promise(20, "how many there were. -3 DAY 999");
        LitStrangers x = new LitStrangers();
        due("the first", 1, x.dark());
        due("the second", 2, x.dark());
        x.terms(0, 998);
        due("DAY 998", 3, x.dark());
        due("DAY", 999, x.count(14));
        due("DAY 999", -3, x.dark());
        due("status", -3, x.status());
        due("DAY stays", 999, x.count(14));
        due("DARK stays", 3, x.count(3));
        due("LIT", 0, x.count(2));
        due("undo", 2, x.undo());
        due("DAY", 998, x.count(14));
        due("DARK", 2, x.count(3));
    }

    private static void darkArrivals() {
        D.promise(20, "those whose road ends then are HERE");
        LitStrangers x = Due.coast(1, 2, 30);
        x.terms(0, 99);
        for (int p = 0; p < 3; p++) {
            x.send(p);
        }
        due("SPENT", 33, x.count(4));
        for (int night = 1; night <= 30; night++) {
            x.dark();
            due("the first", 2, x.of(0, 3));
            due("the second", night < 2 ? 1 : 2, x.of(1, 3));
            due("the third", night < 30 ? 1 : 2, x.of(2, 3));
        }
        due("29 and 28 NIGHTS", 33 + 29 + 28, x.count(4));
        x.dark();
        due("30 and 29 and 1", 33 + 30 + 29 + 1, x.count(4));
    }

    private static void undoKinds() {
        D.promise(21, "The latest is undone: 0, 1, 2. -3 there is none");
        LitStrangers x = Due.coast(0, 3);
        x.talk(0, 1, 1);
        due("none", -3, x.undo());
        x.send(0);
        x.send(1);
        x.light(1);
        x.dark();
        due("SPENT", 3, x.count(4));
        due("DARK", 2, x.undo());
        due("DAY", 1, x.count(14));
        due("NIGHTS DARK", 0, x.count(3));
        due("LIGHT", 1, x.undo());
        due("NIGHTS LIT", 0, x.count(2));
        due("DAY", 0, x.count(14));
        due("HEARD", 0, x.of(1, 2));
        due("HERE", 2, x.of(0, 3));
        due("SEND", 0, x.undo());
        due("HOME", 0, x.of(1, 3));
        due("till", NONE, x.of(1, 4));
        due("SPENT", 0, x.count(4));
        due("SEND", 0, x.undo());
        due("none", -3, x.undo());
        due("status", -3, x.status());
        x.send(9);
        x.light(0);
        due("REFUSED ones are not undone", -3, x.undo());
        x.dark();
        due("undone", 2, x.undo());
        due("status", 0, x.status());
    }

    private static void undoSixteen() {
        D.promise(21, "16 are kept, by ORDERS, too");
        LitStrangers x = Due.coast(0, 0);
        x.send(0);
        x.send(1);
        for (int i = 1; i <= 14; i++) {
            x.dark();
        }
        due("16", 16, x.count(6));
        x.dark();
        due("16 of 17", 16, x.count(6));
        for (int i = 15; i > 0; i--) {
            due("undo", 2, x.undo());
            due("kept", i, x.count(6));
            due("DAY", i - 1, x.count(14));
        }
        due("the second sending", 0, x.undo());
        due("HOME", 0, x.of(1, 3));
        due("the first is not kept", -3, x.undo());
        due("HERE", 2, x.of(0, 3));
        due("forty by ORDERS", 40, Due.orders(x, "dark times 20;dark times 20"));
        due("16", 16, x.count(6));
        for (int i = 0; i < 10; i++) {
            x.undo();
        }
        due("six are left", 6, x.count(6));
        x.light(1);
        for (int i = 0; i < 12; i++) {
            x.dark();
        }
        due("16 again", 16, x.count(6));
        for (int i = 0; i < 12; i++) {
            due("undo", 2, x.undo());
        }
        due("LIGHT", 1, x.undo());
        for (int i = 3; i > 0; i--) {
            due("undo", 2, x.undo());
            due("DAY", 26 + i, x.count(14));
        }
        due("none", -3, x.undo());
    }

    private static void undoCut() {
        D.promise(21, "nothing that was ahead of a person(), hear(), row(), terms() that was not REFUSED, of a back()");
        for (int how = 0; how < 7; how++) {
            LitStrangers x = Due.coast(0, 0);
            x.image(0);
            x.send(0);
            x.dark();
            due("ahead of it", 2, x.count(6));
            switch (how) {
                case 0:
                    due("person", 2, x.person(0, 0));
                    break;
                case 1:
                    due("hear, the same as it was", 0, x.hear(0, 0));
                    break;
                case 2:
                    Due.put(x, new byte[3]);
                    due("row", 1, x.row());
                    break;
                case 3:
                    Due.put(x, new byte[1]);
                    due("row of SALT alone", 0, x.row());
                    break;
                case 4:
                    due("terms, the same as it was", 1, x.terms(0, 1));
                    break;
                case 5:
                    due("terms of MOOD", 0, x.terms(2, 1));
                    break;
                default:
                    due("back", 0, x.back(0));
                    break;
            }
            due("nothing behind it", 0, x.count(6));
            due("undo behind " + how, -3, x.undo());
            x.dark();
            due("what comes behind it can be", 2, x.undo());
            due("but that alone", -3, x.undo());
        }
    }

    private static void undoNotCut() {
        D.promise(21, "that was not REFUSED: others leave what can be undone");
        LitStrangers x = Due.coast(1, 1);
        x.send(0);
        x.dark();
        x.send(1);
        due("person", -1, x.person(31, 0));
        due("hear", -1, x.hear(0, 3));
        due("hear", -2, x.hear(2, 0));
        due("row", -6, x.row());
        due("terms", -1, x.terms(2, 10));
        due("terms", -3, x.terms(0, 5));
        due("back", -2, x.back(0));
        due("three", 3, x.count(6));
        x.talk(0, 1, 1);
        x.fog(0, 1);
        Due.rule(x, "takes 9;costs 9;lodges 9");
        x.image(0);
        x.winter(0, 5);
        x.last(NONE);
        Due.orders(x, "dark if 1 = 2");
        Due.orders(x, "send 9");
        Due.orders(x, "?");
        due("three still", 3, x.count(6));
        due("undo", 0, x.undo());
        due("undo", 2, x.undo());
        due("undo", 0, x.undo());
        due("SPENT as ahead of it, whatever the LAW", 0, x.count(4));
        due("TALKS stay", 1, x.count(1));
        due("FOG stays", 1, x.fog(0, 1));
        due("the LAW stays", 0, x.count(13));
    }

    private static void lightSpoilsTen() {
        D.promise(19, "all others who TALK to that one, the first and the last of ten too");
        LitStrangers x = Due.here(10);
        x.talk(0, 5, 1);
        x.talk(9, 5, 1);
        x.light(1 << 5);
        for (int p = 0; p < 10; p++) {
            due("HEARD of " + p, p == 0 || p == 9 ? 1 : 0, x.of(p, 2));
        }
        due("the last lights it with the first", 2, x.light(513));
        due("who has BEEN there has HEARD no more", 0, x.of(5, 2));
    }

    private static int[] state(LitStrangers x) {
        int[] state = new int[5 + 40];
        for (int i = 0; i < 3; i++) {
            state[i] = x.count(2 + i);
        }
        state[3] = x.count(14);
        state[4] = x.count(6);
        for (int p = 0; p < 10; p++) {
            for (int what = 2; what < 6; what++) {
                state[5 + p * 4 + what - 2] = x.of(p, what);
            }
        }
        return state;
    }

    private static void undoAll() {
        D.promise(21, "is undone: LIT, DARK, SPENT, DAY, where each is, till when, what each has HEARD");
        LitStrangers x = Due.coast(0, 1, 2, 3, 4, 5, 6, 7, 8, 9);
        for (int p = 0; p < 10; p++) {
            x.hear(p, p == 2 || p == 9 ? 1 : 0);
            x.talk(p, (p + 1) % 10, 1);
        }
        x.terms(0, 7);
        String[] deeds = {"send 9", "send 0", "light 1", "send 5", "dark", "send 3", "send 4", "dark", "dark", "dark",
            "send 1", "light 8", "dark", "send 2", "dark", "dark"};
        int[][] states = new int[deeds.length][];
        for (int i = 0; i < deeds.length; i++) {
            if (i % 4 == 0) {
                states[i] = state(x);
            }
            due(deeds[i], 1, Due.orders(x, deeds[i]));
        }
        due("all can be undone", 16, x.count(6));
        for (int i = deeds.length - 1; i >= 0; i--) {
            String deed = deeds[i];
            due("undo " + deed, deed.startsWith("send") ? 0 : deed.startsWith("light") ? 1 : 2, x.undo());
            int[] is = i % 4 == 0 ? state(x) : new int[0];
            for (int k = 0; k < is.length; k++) {
                due("behind undoing " + deed + ", " + k, states[i][k], is[k]);
            }
        }
        due("none", -3, x.undo());
    }
}
