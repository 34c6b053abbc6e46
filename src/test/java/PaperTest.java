/** Promises 22 to 37: what is asked on paper, winters, images, counts and refusals. */
public final class PaperTest {
    private static final Due D = new Due("PaperTest");

    public static void main(String[] args) {
        rows();
        edges();
        cheap();
        late();
        swaps();
        crews();
        share();
        harm();
        hush();
        who();
        winter();
        images();
        imagesApart();
        counts();
        tenPeople();
        D.close();
    }

    private static void due(String what, long want, long got) {
        D.due(what, want, got);
    }

    private static LitStrangers coast(int... roads) {
        return Due.coast(roads);
    }

    private static void rows() {
        LitStrangers x = coast(0, 0, 1, 1);
        x.hear(0, 1);
        x.hear(1, 1);
        // night 0 by 0 and 1 together; then 2, 3 in either order
        due("last", 3, x.last(-1));
        due("last(0)", 3, x.last(0));
        due("last(1)", 4, x.last(1));
        due("last(2)", 8, x.last(2));
        due("last(3)", -1, x.last(3));
        due("last(-2)", -1, x.last(-2));
        due("ways(3)", 2, x.ways(3));
        due("ways(2)", 2, x.ways(2));
        due("ways(4)", 0, x.ways(4));
        x.fog(1, 1);
        due("last in fog", 2, x.last(-1));
        due("two in fog", 12, x.last(1));
        x.fog(1, 0);
        // those on the road come when their road ends, not when the law tells now
        x.send(2);
        Due.rule(x, "takes 9");
        due("last", 0, x.last(-1));
        x.send(0);
        due("nothing was sent on paper", 0, x.of(3, 3));
        due("state stays", 1, x.count(4));
    }

    private static void edges() {
        LitStrangers x = coast(0, 0, 0);
        x.terms(0, 999);
        due("behind 999", 3, x.last(-1));
        due("ways", 6, x.ways(3));
        Due.rule(x, "bars if day > 1000");
        due("behind 999 by law", 2, x.last(-1));
        x.force(-1);
        x.terms(0, 98);
        x.fog(99, 1);
        due("fog on 99", 2, x.last(-1));
        x.terms(0, 99);
        due("ways", -1, x.ways(-1));
        due("ways", -1, x.ways(11));
        due("ways", 1, x.ways(0));
        due("ways", 0, x.ways(10));
        due("none was refused", 0, x.count(8));
    }

    private static void cheap() {
        LitStrangers x = coast(0, 0, 0, 0);
        Due.rule(x, "costs 10 - person;takes 0");
        due("cheap", 7, x.cheap(1, -1));
        due("cheap(1, 0)", 8, x.cheap(1, 0));
        due("cheap", 15, x.cheap(2, -1));
        due("the first row", 4, x.cheap(2, 0));
        due("the first row", 8, x.cheap(2, 1));
        due("beyond", -1, x.cheap(2, 2));
        due("below", -1, x.cheap(2, -2));
        due("all", 34, x.cheap(4, -1));
        due("too many", -1, x.cheap(5, -1));
        due("too many", -1, x.cheap(5, 0));
        due("n", -1, x.cheap(0, -1));
        due("n", -1, x.cheap(11, -1));
        x.send(0);
        due("one who is here costs nothing", 0, x.cheap(1, -1));
        due("one who is here", 1, x.cheap(1, 0));
        due("cheap", 7, x.cheap(2, -1));
    }

    private static void late() {
        LitStrangers x = coast(0, 0, 2);
        due("late(0)", 1, x.late(0));
        due("late(1)", 1, x.late(1));
        due("late(2)", 2, x.late(2));
        due("late(3)", -1, x.late(3));
        due("late(-1)", -1, x.late(-1));
        x.person(30, 0);
        due("in no row", -1, x.late(3));
        LitStrangers y = coast(0, 0, 1);
        Due.rule(y, "spoils 2 if person = 0;spoils 0 if person > 0");
        due("late(1)", 2, y.late(1));
        // now 0 can only come behind 2, so 1 must be the first
        y.talk(0, 2, 1);
        due("late(0)", 2, y.late(0));
        due("late(1)", 0, y.late(1));
        due("late(2)", 1, y.late(2));
    }

    private static void swaps() {
        LitStrangers x = new LitStrangers();
        x.person(0, 0);
        x.person(0, 0);
        x.person(0, 1);
        due("last", 3, x.last(-1));
        due("swaps", 3, x.swaps(-1));
        due("swaps(0)", 1, x.swaps(0));
        due("swaps(1)", 4, x.swaps(1));
        due("swaps(2)", 2, x.swaps(2));
        due("swaps(3)", -1, x.swaps(3));
        due("swaps(-2)", -1, x.swaps(-2));
        x.person(0, 1);
        x.hear(2, 1);
        x.hear(1, 1);
        // 1 and 2 are of both lands: nobody can come behind them
        due("swaps", 2, x.swaps(-1));
        due("swaps(0)", 1, x.swaps(0));
        due("swaps(1)", 8, x.swaps(1));
    }

    private static void crews() {
        LitStrangers x = coast(0, 0, 0, 0, 5);
        x.hear(1, 1);
        x.hear(2, 1);
        x.hear(3, 2);
        due("none here", 0, x.crews(-1));
        for (int p = 0; p < 5; p++) {
            x.send(p);
        }
        due("crews", 2, x.crews(-1));
        due("crews(0)", 1, x.crews(0));
        due("crews(1)", 6, x.crews(1));
        due("crews(2)", -1, x.crews(2));
        due("crews(-2)", -1, x.crews(-2));
        Due.rule(x, "bars if heard = 1");
        due("barred", 1, x.crews(-1));
        x.fog(0, 1);
        x.force(-1);
        due("in fog", 1, x.crews(-1));
        due("in fog", 7, x.crews(0));
    }

    private static void share() {
        LitStrangers x = coast(0, 1, 2);
        due("share(0)", 3, x.share(0));
        due("share(1)", 2, x.share(1));
        due("share(2)", 1, x.share(2));
        due("share(3)", 0, x.share(3));
        due("share(4)", -1, x.share(4));
        due("share(-1)", -1, x.share(-1));
    }

    private static void harm() {
        LitStrangers x = coast(0, 1, 2);
        x.talk(0, 1, 1);
        x.talk(0, 2, 1);
        x.hear(2, 2);
        due("harm", 1, x.harm(0));
        Due.rule(x, "spoils 2");
        due("harm", 2, x.harm(0));
        due("harm", 2, x.harm(1));
        due("harm", -1, x.harm(3));
        due("harm", -1, x.harm(-1));
        x.force(-1);
        x.send(0);
        x.light(1);
        due("one who has been there", -1, x.harm(0));
        due("who talks to such a one alone", 0, x.harm(1));
    }

    private static void hush() {
        LitStrangers x = coast(0, 1, 2);
        Due.rule(x, "spoils 2");
        x.talk(0, 1, 1);
        x.talk(1, 2, 1);
        due("last", 1, x.last(-1));
        due("hush(3)", 1, x.hush(3, 0));
        due("hush(3)", 2, x.hush(3, 1));
        due("hush(3)", 1, x.hush(3, 2));
        due("hush(2)", 1, x.hush(2, 0));
        due("hush(2)", 1, x.hush(2, 1));
        due("hush(2)", 2, x.hush(2, 2));
        due("hush(1)", 0, x.hush(1, 0));
        due("hush(1)", 0, x.hush(1, 1));
        due("hush(1)", 1, x.hush(1, 2));
        due("hush(4)", -1, x.hush(4, 0));
        due("n", -1, x.hush(0, 0));
        due("n", -1, x.hush(11, 0));
        due("what", -1, x.hush(1, 3));
        due("what", -1, x.hush(1, -1));
        x.talk(0, 2, 1);
        due("by two", 2, x.hush(3, 0));
        due("the lowest", 3, x.hush(3, 1));
        due("in three ways", 3, x.hush(3, 2));
        due("state stays", 3, x.count(1));
        hushOneWay();
    }

    /** One spoils the other, who does not spoil back: either may be hushed. */
    private static void hushOneWay() {
        LitStrangers x = coast(0, 1);
        Due.rule(x, "spoils 2;spoils 0 if person = 1");
        x.talk(0, 1, 1);
        due("hush(2)", 1, x.hush(2, 0));
        due("hush(2)", 1, x.hush(2, 1));
        due("hush(2)", 2, x.hush(2, 2));
        LitStrangers y = coast(1, 0);
        Due.rule(y, "spoils 2;spoils 0 if person = 0");
        y.talk(0, 1, 1);
        due("hush(2)", 1, y.hush(2, 1));
        due("hush(2)", 2, y.hush(2, 2));
        due("hush(3)", -1, y.hush(3, 0));
    }

    private static void who() {
        LitStrangers x = coast(0, 1, 1);
        due("last", 3, x.last(-1));
        due("who(0)", 1, x.who(0));
        due("who(2)", 6, x.who(2));
        due("who(3)", 0, x.who(3));
        due("who(-1)", -1, x.who(-1));
        due("who(11)", -1, x.who(11));
        due("who(10)", 0, x.who(10));
        x.person(0, 0);
        x.send(0);
        x.light(1);
        due("last", 3, x.last(-1));
        due("not who has been there", 6, x.who(2));
        due("who(0)", 8, x.who(0));
    }

    private static void winter() {
        LitStrangers x = coast(0, 0, 0, 1);
        due("seed", -1, x.winter(-1, 1));
        due("seed", -1, x.winter(1000001, 1));
        due("nights", -1, x.winter(0, 0));
        due("nights", -1, x.winter(0, 61));
        due("none yet", -1, x.drawn(0));
        // the draws of 10 from seed 0 begin 5, 1, so there is fog on the second night
        due("winter", 2, x.winter(0, 2));
        due("drawn(0)", 1, x.drawn(0));
        due("drawn(1)", 6, x.drawn(1));
        due("drawn(2)", -1, x.drawn(2));
        due("drawn(-1)", -1, x.drawn(-1));
        x.terms(1, 0);
        x.fog(0, 1);
        due("no fog by draws, that told set aside", 4, x.winter(1000000, 60));
        due("drawn(3)", 8, x.drawn(3));
        due("drawn(59)", 0, x.drawn(59));
        x.terms(1, 10);
        due("fog each night", 2, x.winter(7, 5));
        due("drawn(0)", 3, x.drawn(0));
        due("drawn(1)", 12, x.drawn(1));
        Due.rule(x, "bars if fog = 1");
        due("the law is asked of the fog drawn", 0, x.winter(7, 5));
        x.winter(-1, 5);
        due("a refused one leaves the latest", 0, x.drawn(4));
        due("status", -1, x.status());
        due("nothing is lit but on paper", 0, x.count(2));
    }

    private static void images() {
        LitStrangers x = coast(0, 1);
        due("image", -1, x.image(-1));
        due("image", -1, x.image(2));
        due("back", -1, x.back(2));
        due("back", -1, x.back(-1));
        due("back", -2, x.back(0));
        Due.law(x, "takes 1");
        x.force(0);
        x.talk(0, 1, 1);
        x.fog(7, 1);
        x.hear(1, 1);
        x.terms(1, 4);
        due("image", 0, x.image(0));
        x.send(0);
        x.dark();
        x.light(1);
        Due.law(x, "takes 2");
        x.force(1);
        x.talk(0, 1, 0);
        x.fog(7, 0);
        x.person(3, 3);
        x.terms(1, 5);
        Due.orders(x, "send 8");
        x.winter(0, 3);
        Due.put(x, "abc");
        due("image", 0, x.image(1));
        due("back", 0, x.back(0));
        due("people", 2, x.count(0));
        due("talks", 1, x.count(1));
        due("lit", 0, x.count(2));
        due("dark", 0, x.count(3));
        due("spent", 0, x.count(4));
        due("laws", 1, x.count(5));
        due("force", 0, x.count(13));
        due("day", 0, x.count(14));
        due("foggy", 4, x.count(15));
        due("heard", 1, x.of(1, 2));
        due("home", 0, x.of(0, 3));
        due("fog", 1, x.fog(7, 1));
        due("the tape stays", 3, x.count(7));
        due("stopped stays", 0, x.stopped());
        due("the winter stays", 4, x.drawn(2));
        due("refusals stay", 1, x.count(10));
        due("nothing to undo", -3, x.undo());
        due("a law", 1, Due.law(x, "costs 900"));
        due("back to the other", 0, x.back(1));
        due("its law", 2, x.asks(0, 0, 0));
        due("its people", 3, x.count(0));
        due("back again", 0, x.back(0));
        x.dark();
        due("a refused back", -1, x.back(3));
        due("leaves what can be undone", 2, x.undo());
    }

    /** People and laws of the same numbers are others in each image. */
    private static void imagesApart() {
        LitStrangers x = new LitStrangers();
        x.image(0);
        x.person(5, 1);
        Due.rule(x, "lodges 7");
        x.image(1);
        x.back(0);
        x.person(9, 2);
        Due.rule(x, "lodges 8");
        x.image(0);
        x.back(1);
        due("road", 5, x.of(0, 0));
        due("land", 1, x.of(0, 1));
        due("law", 7, x.asks(0, 0, 2));
        x.back(0);
        due("road", 9, x.of(0, 0));
        due("land", 2, x.of(0, 1));
        due("law", 8, x.asks(0, 0, 2));
    }

    private static void counts() {
        LitStrangers x = coast(0);
        x.person(99, 0);
        x.send(4);
        x.undo();
        x.row();
        due("by -1", 1, x.count(8));
        due("by -2", 1, x.count(9));
        due("by -3", 1, x.count(10));
        due("by -5", 0, x.count(11));
        due("by -6", 1, x.count(12));
        due("status", -6, x.status());
        x.of(9, 9);
        x.end(5);
        x.feed(0, 0, 0, 0, 0);
        x.last(0);
        x.hush(0, 0);
        due("others leave the status", -6, x.status());
        due("others are not refused", 1, x.count(8));
        x.image(0);
        due("status", 0, x.status());
        x.back(1);
        due("status", -2, x.status());
        x.force(-1);
        due("none was in force, which is no refusal", 0, x.status());
    }

    private static void tenPeople() {
        LitStrangers x = coast(0, 0, 0, 0, 0, 0, 0, 0, 0, 0);
        due("last", 10, x.last(-1));
        due("last(9)", 512, x.last(9));
        due("ways(10)", 3628800, x.ways(10));
        due("ways(9)", 3628800, x.ways(9));
        due("ways(2)", 90, x.ways(2));
        due("cheap", 0, x.cheap(10, -1));
        due("cheap", 512, x.cheap(10, 9));
        due("late", 9, x.late(0));
        due("who", 1023, x.who(9));
        due("swaps", 10, x.swaps(-1));
        due("hush", 0, x.hush(10, 0));
        for (int p = 0; p < 10; p++) {
            x.hear(p, 1);
        }
        due("last", 5, x.last(-1));
        due("ways", 113400, x.ways(5));
        x.fog(0, 1);
        due("ways(1)", 210, x.ways(1));
        for (int p = 0; p < 10; p++) {
            x.send(p);
        }
        due("crews", 210, x.crews(-1));
        due("crews(209)", 960, x.crews(209));
        due("crews(0)", 15, x.crews(0));
    }
}
