/** The boundary cases of promises 1 to 7: a new object, people, what is told of them, talks, fog, terms. */
public final class EdgesPeopleTest {
    private static final Due D = new Due("EdgesPeopleTest");
    private static final int NONE = -1;
    private static final int[] NOBODY_OF_TWO = {Integer.MIN_VALUE, -2, -1, 2, 9, 10, Integer.MAX_VALUE};

    public static void main(String[] args) {
        newObject();
        newObjectRefuses();
        objectsApart();
        personNumbers();
        personRoom();
        hearValues();
        hearOrder();
        hearPlaces();
        ofWhat();
        ofPlaces();
        ofWorth();
        talkNumbers();
        talkOrder();
        talkFull();
        fogDays();
        termsNumbers();
        termsOnTheRoad();
        termsOfTen();
        D.covers(1, 7);
        D.close();
    }

    private static void due(String what, long want, long got) {
        D.due(what, want, got);
    }

    private static void newObject() {
        D.promise(1, "a dark coast");
        LitStrangers x = new LitStrangers();
        int[] counts = {0, 0, 0, 0, 0, 0, 0, 0, 0, 0, 0, 0, 0, NONE, 0, 3, 0};
        for (int what = 0; what < counts.length; what++) {
            due("count(" + what + ")", counts[what], x.count(what));
        }
        due("status", 0, x.status());
        due("fault", NONE, x.fault());
        due("stopped", NONE, x.stopped());
        due("salt", 0, x.salt());
        due("drawn(0)", NONE, x.drawn(0));
        due("of(0, 3)", NONE, x.of(0, 3));
        due("asks(0, 1, 0)", NONE, x.asks(0, 1, 0));
        due("last", 0, x.last(NONE));
        due("last(0)", NONE, x.last(0));
        due("cheap(1)", NONE, x.cheap(1, NONE));
        due("ways(0)", 1, x.ways(0));
        due("ways(1)", 0, x.ways(1));
        due("ways(10)", 0, x.ways(10));
        due("late(0)", NONE, x.late(0));
        due("swaps", 0, x.swaps(NONE));
        due("swaps(0)", NONE, x.swaps(0));
        due("crews", 0, x.crews(NONE));
        due("crews(0)", NONE, x.crews(0));
        due("share(0)", 0, x.share(0));
        due("share(3)", 0, x.share(3));
        due("harm(0)", NONE, x.harm(0));
        due("hush(1, 0)", NONE, x.hush(1, 0));
        due("who(0)", 0, x.who(0));
        due("status still", 0, x.status());
        due("end(0)", 0, x.end(0));
        for (int day = 0; day < 100; day++) {
            due("fog(" + day + ")", 0, x.fog(day, 0));
        }
        due("terms DAY", 0, x.terms(0, 0));
        due("terms FOGGY", 3, x.terms(1, 3));
        due("terms MOOD", 0, x.terms(2, 0));
        due("force", NONE, x.force(NONE));
    }

    private static void newObjectRefuses() {
        D.promise(1, "nothing stands yet");
        LitStrangers x = new LitStrangers();
        due("hear", -2, x.hear(0, 0));
        due("talk", -2, x.talk(0, 1, 0));
        due("row", -6, x.row());
        due("law", -6, x.law());
        due("fault", 0, x.fault());
        due("orders", -6, x.orders());
        due("fault", 0, x.fault());
        due("force(0)", -2, x.force(0));
        due("send", -2, x.send(0));
        due("light", -2, x.light(1));
        due("undo", -3, x.undo());
        due("back(0)", -2, x.back(0));
        due("back(1)", -2, x.back(1));
        due("dark", 1, x.dark());
        due("winter", 0, x.winter(0, 60));
        due("drawn(59)", 0, x.drawn(59));
        due("drawn(60)", NONE, x.drawn(60));
    }

    private static void objectsApart() {
        D.promise(1, "each object is a coast of its own");
        LitStrangers x = Due.here(2);
        LitStrangers y = new LitStrangers();
        x.talk(0, 1, 1);
        x.fog(3, 1);
        x.terms(2, 4);
        Due.rule(x, "takes 3");
        x.image(0);
        due("people", 0, y.count(0));
        due("talks", 0, y.count(1));
        due("laws", 0, y.count(5));
        due("mood", 0, y.count(16));
        due("fog", 0, y.fog(3, 0));
        due("back", -2, y.back(0));
        due("the first has its people", 2, x.count(0));
    }

    private static void personNumbers() {
        D.promise(2, "ROAD 0 .. 30, a LAND 0 .. 3; -1");
        LitStrangers x = new LitStrangers();
        int[] roads = {Integer.MIN_VALUE, -31, -1, 31, 32, 256, Integer.MAX_VALUE};
        for (int road : roads) {
            due("ROAD " + road, -1, x.person(road, 0));
        }
        int[] lands = {Integer.MIN_VALUE, -1, 4, 5, 256, Integer.MAX_VALUE};
        for (int land : lands) {
            due("LAND " + land, -1, x.person(0, land));
        }
        due("both", -1, x.person(31, 4));
        due("none came", 0, x.count(0));
        due("the least", 0, x.person(0, 0));
        due("the most", 1, x.person(30, 3));
        due("ROAD 0", 0, x.of(0, 0));
        due("LAND 0", 0, x.of(0, 1));
        due("ROAD 30", 30, x.of(1, 0));
        due("LAND 3", 3, x.of(1, 1));
        due("HEARD at first", 0, x.of(1, 2));
        due("HOME at first", 0, x.of(1, 3));
        due("TALKS, none at first", 0, x.talk(0, 1, 0));
        due("refused by -1", roads.length + lands.length + 1, x.count(8));
    }

    private static void personRoom() {
        D.promise(2, "10 at most: -5");
        LitStrangers x = new LitStrangers();
        for (int p = 0; p < 9; p++) {
            x.person(p, 0);
        }
        x.image(0);
        due("the tenth", 9, x.person(9, 0));
        due("the eleventh", -5, x.person(0, 0));
        due("status", -5, x.status());
        due("-1 ahead of -5, ROAD", -1, x.person(31, 0));
        due("-1 ahead of -5, LAND", -1, x.person(0, 4));
        due("people", 10, x.count(0));
        due("no room", 1, x.count(11));
        due("the tenth stays", 9, x.of(9, 0));
        x.back(0);
        due("room behind back()", 9, x.person(30, 1));
        due("its road", 30, x.of(9, 0));
        LitStrangers y = new LitStrangers();
        Due.put(y, new byte[30]);
        due("ten by a row", 10, y.row());
        due("no room behind a row", -5, y.person(0, 0));
    }

    private static void hearValues() {
        D.promise(3, "HEARD 0 .. 2: what it was. -1");
        LitStrangers x = Due.coast(0, 0);
        due("2", 0, x.hear(0, 2));
        due("3", -1, x.hear(0, 3));
        due("-1", -1, x.hear(0, -1));
        due("the least int", -1, x.hear(0, Integer.MIN_VALUE));
        due("the most int", -1, x.hear(0, Integer.MAX_VALUE));
        due("0", 2, x.hear(0, 0));
        due("1", 0, x.hear(0, 1));
        due("the same", 1, x.hear(0, 1));
        due("the other one's", 0, x.of(1, 2));
        due("status", 0, x.status());
    }

    private static void hearOrder() {
        D.promise(3, "-1; -2; -3, the first in that order");
        LitStrangers x = Due.coast(0, 0);
        for (int nobody : NOBODY_OF_TWO) {
            due("of " + nobody, -2, x.hear(nobody, 1));
            due("3 of " + nobody, -1, x.hear(nobody, 3));
        }
        x.send(0);
        x.light(1);
        due("one who has BEEN there", -3, x.hear(0, 0));
        due("a value that can't be, of one who has BEEN there", -1, x.hear(0, 3));
        due("by -3", 1, x.count(10));
        due("HEARD stays", 0, x.of(0, 2));
    }

    private static void hearPlaces() {
        D.promise(3, "-3 one has BEEN there, no other place");
        LitStrangers x = Due.coast(0, 5, 5);
        x.send(0);
        x.send(1);
        due("HERE", 0, x.hear(0, 1));
        due("ON THE ROAD", 0, x.hear(1, 2));
        due("at HOME", 0, x.hear(2, 1));
        due("HERE stays", 2, x.of(0, 3));
        due("ON THE ROAD stays", 5, x.of(1, 4));
    }

    private static void ofWhat() {
        D.promise(4, "what 0 .. 5. NONE");
        LitStrangers x = Due.coast(7, 9);
        due("ROAD", 9, x.of(1, 0));
        due("LAND", 1, x.of(1, 1));
        due("WORTH", 2, x.of(1, 5));
        int[] whats = {Integer.MIN_VALUE, -1, 6, 7, Integer.MAX_VALUE};
        for (int what : whats) {
            due("what " + what, NONE, x.of(1, what));
        }
        for (int nobody : NOBODY_OF_TWO) {
            for (int what = 0; what < 6; what++) {
                due("of " + nobody + ", " + what, NONE, x.of(nobody, what));
            }
        }
        due("none is REFUSED", 0, x.count(8) + x.count(9) + x.status());
    }

    private static void ofPlaces() {
        D.promise(4, "where one is; till which DAY ON THE ROAD (NONE: not)");
        LitStrangers x = Due.coast(1, 0);
        x.terms(0, 999);
        Due.rule(x, "takes 60 if person = 0");
        due("HOME", 0, x.of(0, 3));
        due("HOME, till", NONE, x.of(0, 4));
        x.send(0);
        due("ON THE ROAD", 1, x.of(0, 3));
        due("the farthest DAY", 1059, x.of(0, 4));
        x.undo();
        x.terms(0, 0);
        x.force(NONE);
        x.send(0);
        due("till", 1, x.of(0, 4));
        x.dark();
        due("HERE", 2, x.of(0, 3));
        due("HERE, till", NONE, x.of(0, 4));
        x.light(1);
        due("BEEN", 3, x.of(0, 3));
        due("BEEN, till", NONE, x.of(0, 4));
    }

    private static void ofWorth() {
        D.promise(4, "WORTH is 2 less HEARD, 0 of one who has BEEN there");
        LitStrangers x = Due.here(2);
        for (int heard = 0; heard <= 2; heard++) {
            x.hear(0, heard);
            due("HEARD " + heard, 2 - heard, x.of(0, 5));
        }
        x.hear(0, 1);
        x.light(3);
        due("BEEN, HEARD 1", 0, x.of(0, 5));
        due("BEEN, HEARD 0", 0, x.of(1, 5));
        due("what was HEARD", 1, x.of(0, 2));
    }

    private static void talkNumbers() {
        D.promise(5, "Two TALK (1), do not (0). -1");
        LitStrangers x = Due.coast(0, 0);
        int[] bad = {Integer.MIN_VALUE, -1, 2, Integer.MAX_VALUE};
        for (int is : bad) {
            due("is " + is, -1, x.talk(0, 1, is));
        }
        due("none", 0, x.count(1));
        due("do not, as before", 0, x.talk(0, 1, 0));
        due("TALK", 0, x.talk(0, 1, 1));
        due("TALK again", 1, x.talk(0, 1, 1));
        due("TALK the other way round", 1, x.talk(1, 0, 1));
        due("one pair", 1, x.count(1));
        due("do not, the other way round", 1, x.talk(1, 0, 0));
        due("do not again", 0, x.talk(0, 1, 0));
        due("no pair", 0, x.count(1));
        x.send(0);
        x.light(1);
        due("one who has BEEN there", 0, x.talk(0, 1, 1));
    }

    private static void talkOrder() {
        D.promise(5, "-1 (alike ones, too); -2");
        LitStrangers x = Due.coast(0, 0);
        due("alike", -1, x.talk(1, 1, 1));
        due("alike, do not", -1, x.talk(1, 1, 0));
        for (int nobody : NOBODY_OF_TWO) {
            due("alike ones whom there are not, " + nobody, -1, x.talk(nobody, nobody, 1));
            due("one is " + nobody, -2, x.talk(nobody, 0, 1));
            due("other is " + nobody, -2, x.talk(0, nobody, 1));
            due("-1 ahead of -2, " + nobody, -1, x.talk(nobody, 0, 2));
            due("-1 ahead of -2, " + nobody, -1, x.talk(0, nobody, -1));
        }
        due("none TALK", 0, x.count(1));
    }

    private static void talkFull() {
        D.promise(5, "pairs of unlike PEOPLE");
        LitStrangers x = Due.coast(new int[10]);
        int pairs = 0;
        for (int one = 0; one < 10; one++) {
            for (int other = 0; other < one; other++) {
                due("talk", 0, x.talk(one, other, 1));
                pairs++;
                due("pairs", pairs, x.count(1));
            }
        }
        due("all", 45, x.count(1));
        due("8 and 9", 1, x.talk(8, 9, 0));
        due("one less", 44, x.count(1));
        due("0 and 9 still", 1, x.talk(0, 9, 1));
    }

    private static void fogDays() {
        D.promise(6, "FOG is told of DAYS 0 .. 99: what was. -1");
        LitStrangers x = new LitStrangers();
        int[] days = {Integer.MIN_VALUE, -1, 100, 101, Integer.MAX_VALUE};
        for (int day : days) {
            due("DAY " + day, -1, x.fog(day, 1));
        }
        int[] flags = {Integer.MIN_VALUE, -1, 2, Integer.MAX_VALUE};
        for (int is : flags) {
            due("is " + is, -1, x.fog(0, is));
        }
        due("refused", days.length + flags.length, x.count(8));
        due("DAY 0", 0, x.fog(0, 1));
        due("DAY 99", 0, x.fog(99, 1));
        due("DAY 0 again", 1, x.fog(0, 1));
        due("DAY 1", 0, x.fog(1, 0));
        due("DAY 98", 0, x.fog(98, 0));
        due("none", 1, x.fog(0, 0));
        due("none again", 0, x.fog(0, 0));
        due("DAY 99 still", 1, x.fog(99, 1));
        due("status", 0, x.status());
    }

    private static void termsNumbers() {
        D.promise(7, "DAY 0 .. 999, FOGGY 0 .. 10 (3), MOOD 0 .. 9. -1");
        int[] most = {999, 10, 9};
        int[] first = {0, 3, 0};
        for (int what = 0; what < 3; what++) {
            LitStrangers x = new LitStrangers();
            due("one too many", -1, x.terms(what, most[what] + 1));
            due("one too few", -1, x.terms(what, -1));
            due("the most int", -1, x.terms(what, Integer.MAX_VALUE));
            due("the least int", -1, x.terms(what, Integer.MIN_VALUE));
            due("as at first", first[what], x.count(14 + what));
            due("the most", first[what], x.terms(what, most[what]));
            due("counted", most[what], x.count(14 + what));
            due("the least", most[what], x.terms(what, 0));
            due("what it was", 0, x.terms(what, 1));
            for (int other = 0; other < 3; other++) {
                due("TERM " + other, other == what ? 1 : first[other], x.count(14 + other));
            }
        }
        LitStrangers x = new LitStrangers();
        int[] whats = {Integer.MIN_VALUE, -1, 3, 4, Integer.MAX_VALUE};
        for (int what : whats) {
            due("what " + what, -1, x.terms(what, 0));
        }
    }

    private static void termsOnTheRoad() {
        D.promise(7, "-3 (DAY, when one is ON THE ROAD)");
        LitStrangers x = Due.coast(1, 0, 2);
        due("all at HOME", 0, x.terms(0, 1));
        x.send(1);
        due("one HERE", 1, x.terms(0, 2));
        x.send(0);
        due("one ON THE ROAD", -3, x.terms(0, 5));
        due("the same DAY", -3, x.terms(0, 2));
        due("-1 ahead of -3", -1, x.terms(0, 1000));
        due("-1 ahead of -3", -1, x.terms(0, -1));
        due("FOGGY", 3, x.terms(1, 4));
        due("MOOD", 0, x.terms(2, 9));
        due("DAY stays", 2, x.count(14));
        x.send(2);
        x.dark();
        due("the other one still ON THE ROAD", -3, x.terms(0, 5));
        x.dark();
        due("all HERE", 4, x.terms(0, 5));
        x.light(7);
        due("BEEN there", 6, x.terms(0, 0));
    }

    private static void termsOfTen() {
        D.promise(7, "-3 (DAY, when one is ON THE ROAD): any of ten");
        LitStrangers x = Due.coast(0, 0, 0, 0, 0, 0, 0, 0, 0, 1);
        due("all at HOME", 0, x.terms(0, 4));
        x.send(9);
        due("the tenth ON THE ROAD", -3, x.terms(0, 5));
        x.dark();
        due("the tenth HERE", 5, x.terms(0, 6));
    }
}
