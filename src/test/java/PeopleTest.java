/** Promises 1 to 7 and 16 to 21: people, what is told, deeds and how they are undone. */
public final class PeopleTest {
    private static final Due D = new Due("PeopleTest");

    public static void main(String[] args) {
        aNewObject();
        person();
        hear();
        of();
        talk();
        fog();
        terms();
        force();
        asks();
        send();
        light();
        fogWantsTwo();
        spoiling();
        dark();
        undo();
        D.close();
    }

    private static void due(String what, long want, long got) {
        D.due(what, want, got);
    }

    private static void aNewObject() {
        LitStrangers x = new LitStrangers();
        int[] counts = {0, 0, 0, 0, 0, 0, 0, 0, 0, 0, 0, 0, 0, -1, 0, 3, 0};
        for (int what = 0; what < counts.length; what++) {
            due("new count(" + what + ")", counts[what], x.count(what));
        }
        due("count(-1)", -1, x.count(-1));
        due("count(17)", -1, x.count(17));
        due("status", 0, x.status());
        due("fault", -1, x.fault());
        due("stopped", -1, x.stopped());
        due("salt", 0, x.salt());
        due("drawn", -1, x.drawn(0));
        due("last", 0, x.last(-1));
        due("last(0)", -1, x.last(0));
        due("swaps", 0, x.swaps(-1));
        due("crews", 0, x.crews(-1));
        due("who", 0, x.who(0));
        due("hush", -1, x.hush(1, 0));
        due("cheap", -1, x.cheap(1, -1));
        due("share", 0, x.share(3));
        due("NONE", -1, LitStrangers.NONE);
    }

    private static void person() {
        LitStrangers x = new LitStrangers();
        due("person", -1, x.person(-1, 0));
        due("person", -1, x.person(31, 0));
        due("person", -1, x.person(0, -1));
        due("person", -1, x.person(0, 4));
        due("status", -1, x.status());
        for (int i = 0; i < 10; i++) {
            due("person", i, x.person(30 - i, i % 4));
        }
        due("an eleventh", -5, x.person(0, 0));
        due("an eleventh that can't be", -1, x.person(31, 0));
        due("count(0)", 10, x.count(0));
        due("count(8)", 5, x.count(8));
        due("count(11)", 1, x.count(11));
        due("of(0, 0)", 30, x.of(0, 0));
        due("of(9, 1)", 1, x.of(9, 1));
    }

    private static void hear() {
        LitStrangers x = new LitStrangers();
        due("hear", -2, x.hear(0, 0));
        x.person(0, 0);
        due("hear", 0, x.hear(0, 2));
        due("hear", 2, x.hear(0, 1));
        due("hear", -1, x.hear(0, 3));
        due("hear", -1, x.hear(0, -1));
        due("hear of a bad value first", -1, x.hear(7, 3));
        due("hear", -2, x.hear(-1, 0));
        due("hear", -2, x.hear(1, 0));
        due("of", 1, x.of(0, 2));
        x.hear(0, 0);
        x.send(0);
        x.light(1);
        due("one who has been there", -3, x.hear(0, 1));
        due("status", -3, x.status());
    }

    private static void of() {
        LitStrangers x = new LitStrangers();
        x.person(3, 2);
        x.hear(0, 1);
        int[] home = {3, 2, 1, 0, -1, 1};
        for (int what = 0; what < 6; what++) {
            due("of(0, " + what + ")", home[what], x.of(0, what));
        }
        due("of", -1, x.of(0, 6));
        due("of", -1, x.of(0, -1));
        due("of", -1, x.of(1, 0));
        due("of", -1, x.of(-1, 0));
        x.terms(0, 998);
        x.send(0);
        due("on the road", 1, x.of(0, 3));
        due("till behind 999", 1001, x.of(0, 4));
    }

    private static void talk() {
        LitStrangers x = new LitStrangers();
        x.person(0, 0);
        x.person(0, 0);
        due("talk", 0, x.talk(0, 1, 1));
        due("talk the other way", 1, x.talk(1, 0, 1));
        due("count(1)", 1, x.count(1));
        due("talk", 1, x.talk(1, 0, 0));
        due("talk", 0, x.talk(0, 1, 0));
        due("count(1)", 0, x.count(1));
        due("alike", -1, x.talk(5, 5, 1));
        due("talk", -1, x.talk(0, 1, 2));
        due("talk", -1, x.talk(0, 1, -1));
        due("talk", -2, x.talk(0, 2, 1));
        due("talk", -2, x.talk(-1, 0, 1));
    }

    private static void fog() {
        LitStrangers x = new LitStrangers();
        due("fog", 0, x.fog(99, 1));
        due("fog", 1, x.fog(99, 0));
        due("fog", 0, x.fog(0, 0));
        due("fog", -1, x.fog(-1, 0));
        due("fog", -1, x.fog(100, 0));
        due("fog", -1, x.fog(1, 2));
        due("fog", -1, x.fog(1, -1));
        due("status", -1, x.status());
    }

    private static void terms() {
        LitStrangers x = new LitStrangers();
        due("terms", 0, x.terms(0, 999));
        due("terms", 999, x.terms(0, 1));
        due("terms", 3, x.terms(1, 10));
        due("terms", 0, x.terms(2, 9));
        due("terms", -1, x.terms(0, 1000));
        due("terms", -1, x.terms(0, -1));
        due("terms", -1, x.terms(1, 11));
        due("terms", -1, x.terms(2, 10));
        due("terms", -1, x.terms(-1, 0));
        due("terms", -1, x.terms(3, 0));
        x.person(1, 0);
        x.send(0);
        due("DAY with one on the road", -3, x.terms(0, 1));
        due("FOGGY with one on the road", 10, x.terms(1, 0));
        due("a bad DAY with one on the road", -1, x.terms(0, 1000));
        x.dark();
        due("DAY with one here", 2, x.terms(0, 7));
        due("count", 7, x.count(14));
        due("count", 0, x.count(15));
        due("count", 9, x.count(16));
    }

    private static void force() {
        LitStrangers x = new LitStrangers();
        due("force", -2, x.force(0));
        due("force none", -1, x.force(-1));
        due("status", 0, x.status());
        Due.law(x, "takes 5");
        Due.law(x, "takes 6");
        due("force", -1, x.force(1));
        due("force", 1, x.force(0));
        due("force", -2, x.force(2));
        due("force", -2, x.force(-2));
        due("count(13)", 0, x.count(13));
        due("force none", 0, x.force(-1));
        due("count(13)", -1, x.count(13));
    }

    private static void asks() {
        LitStrangers x = new LitStrangers();
        x.person(7, 1);
        x.person(4, 3);
        due("takes without", 7, x.asks(0, 99, 0));
        due("costs without", 7, x.asks(0, -7, 1));
        due("lodges without", 1, x.asks(0, 0, 2));
        due("barred without", 0, x.asks(0, 0, 3));
        due("spoils without", 1, x.asks(0, 1, 4));
        due("the same one", -1, x.asks(0, 0, 4));
        due("no such other", -1, x.asks(0, 2, 4));
        due("no such", -1, x.asks(2, 0, 0));
        due("no such", -1, x.asks(-1, 0, 0));
        due("what", -1, x.asks(0, 1, 5));
        due("what", -1, x.asks(0, 1, -1));
        Due.rule(x, "takes 61;costs 1000;lodges 100;spoils 3;bars");
        due("takes at most", 60, x.asks(0, 0, 0));
        due("costs at most", 999, x.asks(0, 0, 1));
        due("lodges at most", 99, x.asks(0, 0, 2));
        due("bars", 1, x.asks(0, 0, 3));
        due("spoils at most", 2, x.asks(0, 1, 4));
        Due.rule(x, "takes 0-1;costs 0-1;lodges 0-1;spoils 0-1;bars if 1 = 2");
        for (int what = 0; what < 5; what++) {
            due("at least " + what, 0, x.asks(0, 1, what));
        }
        Due.rule(x, "takes 5;takes 6 if land = 3;takes 1/0;takes 9 if 1/0 = 1");
        due("the last that holds", 5, x.asks(0, 0, 0));
        due("the last that holds", 6, x.asks(1, 0, 0));
        words(x);
    }

    private static void words(LitStrangers x) {
        x.hear(1, 2);
        x.terms(0, 12);
        x.terms(2, 8);
        x.fog(12, 1);
        Due.rule(x, "costs person + 10*[road + 10*[land + 10*heard]] - 2*1000");
        due("person, road, land, heard", 1 + 40 + 300, x.asks(1, 0, 1));
        Due.rule(x, "costs other*other*100 + [theirs + 3]*[far + 5]*10 + day*fog*mood");
        due("other, theirs, far, day, fog, mood", 100 + 80 + 96, x.asks(1, 0, 1));
        Due.rule(x, "spoils 2 if person = 1 and road = 4 and land = 3 and other = 0 and theirs = 1 and far = 7"
                + " and heard = 0-1 and day = 0-1 and fog = 0-1 and mood = 8;spoils 0 if person = 0");
        due("spoils", 2, x.asks(1, 0, 4));
        due("spoils", 0, x.asks(0, 1, 4));
    }

    private static void send() {
        LitStrangers x = new LitStrangers();
        x.person(0, 0);
        x.person(2, 0);
        due("send", -2, x.send(2));
        due("send", -2, x.send(-1));
        due("send", -2, x.send(10));
        due("send at once", 0, x.send(0));
        due("here", 2, x.of(0, 3));
        due("send", 2, x.send(1));
        due("send", -3, x.send(1));
        due("send", -3, x.send(0));
        due("spent", 2, x.count(4));
        due("till", 2, x.of(1, 4));
        x.dark();
        due("still on the road", 1, x.of(1, 3));
        x.dark();
        due("here", 2, x.of(1, 3));
        due("till", -1, x.of(1, 4));
        due("spent", 4, x.count(4));
    }

    private static void light() {
        LitStrangers x = new LitStrangers();
        x.person(0, 0);
        x.person(0, 0);
        x.person(0, 0);
        x.hear(1, 1);
        x.hear(2, 2);
        due("none", -1, x.light(0));
        due("bits beyond", -1, x.light(1024));
        due("below", -1, x.light(-1));
        due("no such", -2, x.light(9));
        due("at home", -3, x.light(1));
        x.send(0);
        x.send(1);
        x.send(2);
        due("too little worth", -3, x.light(2));
        due("one without worth", -3, x.light(5));
        due("more than need be", 3, x.light(3));
        due("lit", 1, x.count(2));
        due("day", 1, x.count(14));
        due("only one lodges", 1, x.count(4));
        due("been", 3, x.of(1, 3));
        due("worth", 0, x.of(0, 5));
        due("heard stays", 1, x.of(1, 2));
        due("again", -3, x.light(1));
        x.person(0, 1);
        x.send(3);
        x.terms(0, 999);
        due("DAY 999", -3, x.light(8));
        x.terms(0, 998);
        Due.rule(x, "bars if day = 998");
        due("barred", -3, x.light(8));
        x.force(-1);
        due("DAY 998", 2, x.light(8));
    }

    private static void fogWantsTwo() {
        LitStrangers x = new LitStrangers();
        for (int p = 0; p < 4; p++) {
            x.person(0, 0);
            x.send(p);
        }
        x.hear(0, 1);
        x.fog(0, 1);
        due("2 in fog", -3, x.light(2));
        due("3 in fog", -3, x.light(3));
        due("crews in fog", 3, x.crews(-1));
        due("crew", 6, x.crews(0));
        due("crew", 10, x.crews(1));
        due("crew", 12, x.crews(2));
        due("4 in fog", 4, x.light(12));
        due("the next night", 2, x.light(2));
        LitStrangers all = new LitStrangers();
        for (int p = 0; p < 10; p++) {
            all.person(0, 0);
            all.send(p);
        }
        due("all ten", 20, all.light(1023));
    }

    private static void spoiling() {
        LitStrangers x = new LitStrangers();
        for (int p = 0; p < 5; p++) {
            x.person(0, p % 4);
            x.send(p);
        }
        x.talk(0, 1, 1);
        x.talk(0, 2, 1);
        x.talk(1, 2, 1);
        x.talk(1, 3, 1);
        Due.rule(x, "spoils 2 if theirs = 3;lodges heard");
        due("harm", 2, x.harm(0));
        due("harm", 4, x.harm(1));
        due("light", 4, x.light(3));
        due("by both", 2, x.of(2, 2));
        due("by the law", 2, x.of(3, 2));
        due("of the crew none is spoilt", 0, x.of(1, 2));
        due("who does not talk", 0, x.of(4, 2));
        due("lodges as heard behind it", 4, x.count(4));
    }

    private static void dark() {
        LitStrangers x = new LitStrangers();
        due("dark", 1, x.dark());
        due("dark", 2, x.dark());
        due("nights", 2, x.count(3));
        x.terms(0, 999);
        due("dark", -3, x.dark());
        due("status", -3, x.status());
        x.terms(0, 998);
        due("dark", 3, x.dark());
        due("day", 999, x.count(14));
    }

    private static void undo() {
        LitStrangers x = new LitStrangers();
        x.person(0, 0);
        x.person(1, 0);
        x.talk(0, 1, 1);
        due("nothing", -3, x.undo());
        x.send(1);
        x.send(0);
        x.light(1);
        due("heard", 1, x.of(1, 2));
        due("here", 2, x.of(1, 3));
        x.talk(0, 1, 0);
        x.fog(5, 1);
        due("undo light", 1, x.undo());
        due("heard", 0, x.of(1, 2));
        due("on the road", 1, x.of(1, 3));
        due("till", 1, x.of(1, 4));
        due("talk stays", 0, x.talk(0, 1, 0));
        due("fog stays", 1, x.fog(5, 1));
        due("undo send", 0, x.undo());
        due("spent", 1, x.count(4));
        x.hear(5, 0);
        due("still one", 1, x.count(6));
        x.hear(1, 0);
        due("none behind hear", 0, x.count(6));
        for (int i = 0; i < 20; i++) {
            x.dark();
        }
        due("16 are kept", 16, x.count(6));
        for (int i = 0; i < 16; i++) {
            due("undo dark", 2, x.undo());
        }
        due("undo", -3, x.undo());
        due("day", 4, x.count(14));
        x.dark();
        x.person(0, 9);
        due("a refused person", 1, x.count(6));
        x.person(0, 1);
        due("a person", -3, x.undo());
        x.dark();
        x.terms(2, 1);
        due("a term", -3, x.undo());
        x.dark();
        Due.put(x, new byte[] {99});
        x.row();
        due("a row of salt", -3, x.undo());
    }
}
