/** The boundary cases of promises 22 to 31: all that is asked on paper. */
public final class EdgesPaperTest {
    private static final Due D = new Due("EdgesPaperTest");
    private static final int NONE = -1;
    private static final int[] NO_NIGHT = {Integer.MIN_VALUE, -3, -2, 10, 11, 60, Integer.MAX_VALUE};

    public static void main(String[] args) {
        lastNumbers();
        lastArrivals();
        lastOnTheRoad();
        lastWorth();
        lastFog();
        lastDays();
        lastSpoilt();
        lastBarred();
        lastFirstRow();
        lastChangesNothing();
        lastBehindOthers();
        cheapNumbers();
        cheapCosts();
        cheapFirstRow();
        cheapSpoilt();
        ways();
        waysOfCrews();
        late();
        lateAgain();
        lateSpoilt();
        swaps();
        swapsLands();
        swapsSpoilt();
        rowsThatMeet();
        rowsThatMeetAgain();
        heardAllStays();
        crewsNumbers();
        crewsLeast();
        crewsFull();
        share();
        harm();
        hushNumbers();
        hushFewest();
        hushFull();
        hushOneWay();
        who();
        D.covers(22, 31);
        D.close();
    }

    private static void due(String what, long want, long got) {
        D.due(what, want, got);
    }

    private static LitStrangers ten() {
        return Due.coast(new int[10]);
    }

    private static void lastNumbers() {
        D.promise(22, "how many NIGHTS (i NONE), the CREW of NIGHT i. NONE");
        LitStrangers x = ten();
        due("ten NIGHTS", 10, x.last(NONE));
        for (int night = 0; night < 10; night++) {
            due("NIGHT " + night, 1 << night, x.last(night));
        }
        for (int i : NO_NIGHT) {
            due("last(" + i + ")", NONE, x.last(i));
        }
        LitStrangers y = Due.coast(0, 0);
        due("two NIGHTS", 2, y.last(NONE));
        due("the last", 2, y.last(1));
        due("behind the last", NONE, y.last(2));
        due("none is REFUSED", 0, x.count(8) + y.count(8) + x.status());
        LitStrangers z = Due.coast(1, 1);
        due("nobody this NIGHT", 0, z.last(NONE));
        due("NIGHT 0", NONE, z.last(0));
    }

    private static void lastArrivals() {
        D.promise(22, "PEOPLE who are HERE till then, all at HOME sent for now, TAKES asked this DAY");
        due("just in time", 10, Due.coast(0, 1, 2, 3, 4, 5, 6, 7, 8, 9).last(NONE));
        due("the last one too late", 9, Due.coast(0, 1, 2, 3, 4, 5, 6, 7, 8, 10).last(NONE));
        due("nobody on NIGHT 1", 1, Due.coast(0, 2, 2).last(NONE));
        due("one who waits", 3, Due.coast(0, 0, 2).last(NONE));
        LitStrangers x = Due.coast(5, 5, 5);
        Due.rule(x, "takes day;takes 1 if fog = 1");
        due("TAKES 0 on DAY 0", 3, x.last(NONE));
        x.fog(0, 1);
        due("TAKES 1 in FOG", 0, x.last(NONE));
        x.fog(0, 0);
        x.fog(1, 1);
        due("it is not asked of another DAY; FOG wants two", 2, x.last(NONE));
        due("two of them", 6, x.last(1));
        x.terms(0, 1);
        due("TAKES 1 on DAY 1", 0, x.last(NONE));
    }

    private static void lastOnTheRoad() {
        D.promise(22, "who is ON THE ROAD comes when that road ends");
        LitStrangers x = Due.coast(0, 2, 2);
        x.send(1);
        x.send(2);
        due("too late", 1, x.last(NONE));
        x.dark();
        due("a DAY less", 3, x.last(NONE));
        due("the first", 1, x.last(0));
        due("who comes then", 2, x.last(1));
        Due.rule(x, "takes 9");
        due("by the LAW one at HOME is late, those ON THE ROAD are not", 0, x.last(NONE));
        x.dark();
        due("HERE", 2, x.last(NONE));
        x.force(NONE);
        due("all", 3, x.last(NONE));
        x.send(0);
        x.light(1);
        due("who has BEEN there does not count", 2, x.last(NONE));
    }

    private static void lastWorth() {
        D.promise(22, "by whom it can be LIT: 2 of WORTH");
        LitStrangers x = Due.coast(0);
        due("WORTH 2", 1, x.last(NONE));
        x.hear(0, 1);
        due("WORTH 1", 0, x.last(NONE));
        x.hear(0, 2);
        due("WORTH 0", 0, x.last(NONE));
        x.person(0, 0);
        x.hear(1, 1);
        due("WORTH 0 and 1", 0, x.last(NONE));
        x.hear(0, 1);
        due("WORTH 1 and 1", 1, x.last(NONE));
        due("both", 3, x.last(0));
        x.person(0, 0);
        due("one of WORTH 2 beside them", 2, x.last(NONE));
        due("both first", 3, x.last(0));
        due("then that one", 4, x.last(1));
    }

    private static void lastFog() {
        D.promise(22, "NIGHT k is DAY and k; FOG is told of DAYS 0 .. 99");
        LitStrangers x = Due.coast(0, 0, 0);
        x.fog(99, 1);
        int[] days = {96, 97, 98, 99, 100};
        int[] last = {3, 2, 2, 2, 3};
        for (int i = 0; i < days.length; i++) {
            x.terms(0, days[i]);
            due("DAY " + days[i], last[i], x.last(NONE));
        }
        x.terms(0, 99);
        due("two this NIGHT", 3, x.last(0));
        due("one the next", 4, x.last(1));
        x.terms(0, 98);
        due("one this NIGHT", 1, x.last(0));
        due("two the next", 6, x.last(1));
        x.hear(0, 1);
        x.terms(0, 99);
        due("2 and 2 alone make 4", 1, x.last(NONE));
        due("not 1 and 2", 6, x.last(0));
        x.hear(1, 1);
        due("1 and 1 and 2 do", 7, x.last(0));
        x.hear(2, 1);
        due("1 and 1 and 1 do not", 0, x.last(NONE));
        x.person(0, 0);
        x.hear(3, 1);
        due("four of WORTH 1 do", 15, x.last(0));
    }

    private static void lastDays() {
        D.promise(22, "NIGHT k is DAY and k, also behind 999");
        LitStrangers x = Due.coast(0, 0, 0);
        x.terms(0, 999);
        due("DAY 999", 3, x.last(NONE));
        Due.rule(x, "bars if day = 1000 + 1");
        due("DAY 1001 is BARRED", 2, x.last(NONE));
        Due.rule(x, "bars if day = 1000 + 2");
        due("DAY 1002 is not reached", 3, x.last(NONE));
        Due.rule(x, "bars if day = 999");
        due("DAY 999 is BARRED", 0, x.last(NONE));
        x.force(NONE);
        LitStrangers y = Due.coast(0, 1);
        y.terms(0, 999);
        y.send(1);
        due("ON THE ROAD till 1000", 2, y.last(NONE));
    }

    private static void lastSpoilt() {
        D.promise(22, "others who TALK to that one have HEARD as much more");
        LitStrangers x = Due.coast(0, 0);
        x.talk(0, 1, 1);
        due("1 more is too much for one alone", 1, x.last(NONE));
        Due.rule(x, "spoils 0");
        due("0 more", 2, x.last(NONE));
        Due.rule(x, "spoils 0 if person = 0;spoils 2 if person = 1");
        due("one way alone", 2, x.last(NONE));
        due("that one first", 1, x.last(0));
        Due.rule(x, "spoils 0 if person = 1;spoils 2 if person = 0");
        due("the other one first", 2, x.last(0));
        LitStrangers y = Due.coast(0, 1, 1, 1);
        y.talk(0, 1, 1);
        y.talk(0, 2, 1);
        due("two of WORTH 1 are left, and one of 2", 3, y.last(NONE));
        due("both together", 6, y.last(1));
        y.talk(0, 3, 1);
        due("three of WORTH 1", 2, y.last(NONE));
        y.hear(1, 1);
        due("1 and 1 is 2: WORTH 0", 2, y.last(NONE));
        due("the two others", 12, y.last(1));
        y.hear(2, 2);
        due("one of WORTH 1 alone", 1, y.last(NONE));
    }

    private static void lastBarred() {
        D.promise(22, "not BARRED, asked of that NIGHT and of what is HEARD by then");
        LitStrangers x = Due.coast(0, 0, 0);
        Due.rule(x, "bars if person = 0 and day = 0");
        due("another one first", 2, x.last(0));
        due("then the lowest", 1, x.last(1));
        Due.rule(x, "bars if heard = 1;spoils 0 if person > 0");
        x.hear(2, 1);
        x.hear(1, 1);
        due("both BARRED", 1, x.last(NONE));
        x.hear(1, 0);
        x.hear(2, 0);
        x.talk(0, 2, 1);
        x.talk(0, 1, 1);
        due("BARRED by what they hear then", 3, x.last(NONE));
        due("so they go first", 2, x.last(0));
        due("so they go first", 4, x.last(1));
        due("and that one last", NONE, x.last(3));
        Due.rule(x, "bars if fog = 1");
        x.fog(1, 1);
        due("BARRED in FOG", 1, x.last(NONE));
    }

    private static void lastFirstRow() {
        D.promise(22, "the first ROW as bits");
        LitStrangers x = Due.coast(0, 0, 0, 0);
        x.hear(0, 1);
        x.hear(1, 1);
        due("NIGHTS", 3, x.last(NONE));
        due("3 is ahead of 4", 3, x.last(0));
        due("then 4", 4, x.last(1));
        due("then 8", 8, x.last(2));
        LitStrangers y = Due.coast(0, 1, 0);
        due("only a ROW of as many NIGHTS", 3, y.last(NONE));
        due("the lowest", 1, y.last(0));
        due("the lowest of the rest", 2, y.last(1));
        LitStrangers z = Due.coast(0, 0);
        Due.rule(z, "bars if person = 1 and day = 1");
        due("the lowest would be too short", 2, z.last(0));
        due("then it", 1, z.last(1));
    }

    private static void lastChangesNothing() {
        D.promise(22, "On paper");
        LitStrangers x = Due.coast(0, 1);
        x.talk(0, 1, 1);
        x.last(NONE);
        x.cheap(1, NONE);
        x.ways(2);
        x.late(0);
        x.swaps(0);
        x.crews(0);
        x.share(0);
        x.harm(0);
        x.hush(2, 1);
        x.who(0);
        for (int p = 0; p < 2; p++) {
            due("HOME", 0, x.of(p, 3));
            due("HEARD", 0, x.of(p, 2));
        }
        due("TALKS", 1, x.count(1));
        due("LIT, DARK, SPENT, undone, DAY", 0, x.count(2) + x.count(3) + x.count(4) + x.count(6) + x.count(14));
    }

    private static void cheapNumbers() {
        D.promise(23, "n NIGHTS 1 .. 10; COSTS (i NONE), the CREW of NIGHT i. NONE (it can't be)");
        LitStrangers x = ten();
        Due.rule(x, "costs 999");
        int[] bad = {Integer.MIN_VALUE, -1, 0, 11, 12, Integer.MAX_VALUE};
        for (int n : bad) {
            due("n " + n, NONE, x.cheap(n, NONE));
            due("n " + n, NONE, x.cheap(n, 0));
        }
        due("one NIGHT", 999, x.cheap(1, NONE));
        due("ten NIGHTS", 9990, x.cheap(10, NONE));
        due("NIGHT 9", 512, x.cheap(10, 9));
        due("NIGHT 9 of nine", NONE, x.cheap(9, 9));
        due("NIGHT 8 of nine", 256, x.cheap(9, 8));
        for (int i : NO_NIGHT) {
            due("NIGHT " + i, NONE, x.cheap(10, i));
        }
        LitStrangers y = Due.coast(0, 0);
        due("as many as LAST", 0, y.cheap(2, NONE));
        due("one more", NONE, y.cheap(3, NONE));
        due("one more", NONE, y.cheap(3, 0));
        due("none is REFUSED", 0, x.count(8) + y.count(8));
    }

    private static void cheapCosts() {
        D.promise(23, "the least COSTS of those of its CREWS who are at HOME now (others none)");
        LitStrangers x = Due.coast(0, 0, 0, 1);
        Due.rule(x, "costs 5 + person + 10*fog + day");
        due("the lowest", 5, x.cheap(1, NONE));
        x.fog(0, 1);
        due("in FOG two, asked this DAY", 15 + 16, x.cheap(1, NONE));
        x.fog(0, 0);
        x.fog(1, 1);
        due("not asked of another DAY", 5 + 6 + 7, x.cheap(2, NONE));
        x.fog(1, 0);
        x.send(2);
        due("HERE: none", 0, x.cheap(1, NONE));
        due("who is HERE", 4, x.cheap(1, 0));
        x.send(3);
        due("HERE, ON THE ROAD: none", 0, x.cheap(2, NONE));
        due("who comes then", 8, x.cheap(2, 1));
        due("and one at HOME", 5, x.cheap(3, NONE));
        due("all", 11, x.cheap(4, NONE));
        x.light(4);
        due("who has BEEN there is none; asked on DAY 1", 6 + 7, x.cheap(3, NONE));
        Due.rule(x, "costs 0");
        due("0", 0, x.cheap(3, NONE));
    }

    private static void cheapFirstRow() {
        D.promise(23, "the first ROW");
        LitStrangers x = Due.coast(0, 0, 0);
        Due.rule(x, "costs 9;costs 1 if person > 0");
        due("COSTS", 2, x.cheap(2, NONE));
        due("the first of two", 2, x.cheap(2, 0));
        due("the first of two", 4, x.cheap(2, 1));
        due("all three", 1, x.cheap(3, 0));
        Due.rule(x, "costs 1");
        due("the first of six", 1, x.cheap(2, 0));
        due("the first of six", 2, x.cheap(2, 1));
        x.hear(0, 1);
        x.hear(1, 1);
        Due.rule(x, "costs 1;costs 2 if person = 2");
        due("as much by two", 2, x.cheap(1, NONE));
        due("the first", 3, x.cheap(1, 0));
        Due.rule(x, "costs 1");
        due("less by one", 4, x.cheap(1, 0));
    }

    private static void ways() {
        D.promise(24, "n NIGHTS 0 .. 10. NONE");
        LitStrangers x = ten();
        int[] bad = {Integer.MIN_VALUE, -2, -1, 11, 12, Integer.MAX_VALUE};
        for (int n : bad) {
            due("ways(" + n + ")", NONE, x.ways(n));
        }
        long rows = 1;
        for (int n = 0; n <= 10; n++) {
            due("ways(" + n + ")", rows, x.ways(n));
            rows *= 10 - n;
        }
        LitStrangers y = Due.coast(0);
        due("one of no NIGHT", 1, y.ways(0));
        due("one of one", 1, y.ways(1));
        due("none of two", 0, y.ways(2));
        LitStrangers z = Due.coast(1);
        due("nobody this NIGHT", 0, z.ways(1));
        due("nobody this NIGHT, of no NIGHT", 1, z.ways(0));
        due("none is REFUSED", 0, x.count(8) + x.status());
    }

    private static void waysOfCrews() {
        D.promise(24, "ROWS are of CREWS, one a NIGHT, from this NIGHT on");
        LitStrangers x = ten();
        for (int p = 0; p < 10; p++) {
            x.hear(p, 1);
        }
        due("pairs", 45, x.ways(1));
        due("five NIGHTS of pairs", 113400, x.ways(5));
        due("six", 0, x.ways(6));
        x.fog(0, 1);
        due("fours", 210, x.ways(1));
        due("a four, then a pair", 210 * 15, x.ways(2));
        x.fog(1, 1);
        due("two fours", 210 * 15, x.ways(2));
        due("and a pair", 210 * 15, x.ways(3));
        LitStrangers y = Due.coast(0, 0, 1);
        y.hear(0, 1);
        y.hear(1, 1);
        due("both, then the third", 1, y.ways(2));
        y.talk(0, 2, 1);
        due("who is spoilt then", 0, y.ways(2));
        due("one NIGHT still", 1, y.ways(1));
    }

    private static void late() {
        D.promise(25, "the latest NIGHT in any ROW of as many NIGHTS as LAST tells. NONE (in no such ROW)");
        LitStrangers x = ten();
        for (int p = 0; p < 10; p++) {
            due("late(" + p + ")", 9, x.late(p));
        }
        int[] nobody = {Integer.MIN_VALUE, -1, 10, 11, Integer.MAX_VALUE};
        for (int p : nobody) {
            due("late(" + p + ")", NONE, x.late(p));
        }
        LitStrangers y = Due.coast(0, 1, 1, 5);
        due("the first must be first", 0, y.late(0));
        due("either last", 2, y.late(1));
        due("either last", 2, y.late(2));
        due("who comes too late", NONE, y.late(3));
        due("there is no such", NONE, y.late(4));
        y.hear(2, 2);
        due("WORTH 0", NONE, y.late(2));
        due("two NIGHTS by now", 1, y.late(1));
        y.send(0);
        y.send(1);
        y.light(1);
        due("who has BEEN there", NONE, y.late(0));
        due("this NIGHT", 0, y.late(1));
        LitStrangers z = Due.coast(1, 1);
        due("LAST is 0", NONE, z.late(0));
        LitStrangers v = Due.coast(0, 0, 0);
        Due.rule(v, "bars if person = 0 and day > 0");
        due("in a shorter ROW alone, not on NIGHT 1", 0, v.late(0));
        due("none is REFUSED", 0, x.count(9) + x.status());
    }

    private static void swaps() {
        D.promise(26, "TURNS: how many NIGHTS (i NONE), the CREW of NIGHT i. NONE");
        LitStrangers x = ten();
        due("ten NIGHTS", 10, x.swaps(NONE));
        for (int i : NO_NIGHT) {
            due("swaps(" + i + ")", NONE, x.swaps(i));
        }
        due("NIGHT 0", 1, x.swaps(0));
        due("NIGHT 1", 2, x.swaps(1));
        due("NIGHT 9", 512, x.swaps(9));
        LitStrangers y = Due.coast(0, 0);
        due("two NIGHTS", 2, y.swaps(NONE));
        due("behind the last", NONE, y.swaps(2));
        due("none is REFUSED", 0, x.count(8) + x.status());
        LitStrangers z = Due.coast(1);
        due("nobody this NIGHT", 0, z.swaps(NONE));
        due("NIGHT 0", NONE, z.swaps(0));
    }

    private static void swapsLands() {
        D.promise(26, "no LAND is in the CREWS of two NIGHTS one behind the other");
        LitStrangers x = new LitStrangers();
        for (int p = 0; p < 3; p++) {
            x.person(0, 2);
        }
        due("LAST", 3, x.last(NONE));
        due("one LAND", 1, x.swaps(NONE));
        due("the lowest", 1, x.swaps(0));
        x.person(1, 3);
        due("another between", 3, x.swaps(NONE));
        due("NIGHT 0", 1, x.swaps(0));
        due("NIGHT 1", 8, x.swaps(1));
        due("NIGHT 2: the LAND may come again", 2, x.swaps(2));
        LitStrangers y = new LitStrangers();
        y.person(0, 0);
        y.person(0, 0);
        y.person(0, 1);
        y.hear(0, 1);
        y.hear(1, 1);
        due("one LAND twice in a CREW", 2, y.swaps(NONE));
        due("both", 3, y.swaps(0));
        due("then the third", 4, y.swaps(1));
        LitStrangers z = new LitStrangers();
        z.person(0, 0);
        z.person(0, 3);
        z.person(1, 3);
        z.person(1, 1);
        z.hear(0, 1);
        z.hear(1, 1);
        due("of two LANDS; one of them again is no turn", 3, z.swaps(0));
        due("but another is", 8, z.swaps(1));
        due("then the LAND of the night before the last", 4, z.swaps(2));
        due("NIGHTS", 3, z.swaps(NONE));
    }

    private static void crewsNumbers() {
        D.promise(27, "how many (i NONE), the i-th by bits. NONE");
        LitStrangers x = Due.here(3);
        due("three", 3, x.crews(NONE));
        for (int i = 0; i < 3; i++) {
            due("crews(" + i + ")", 1 << i, x.crews(i));
        }
        due("behind the last", NONE, x.crews(3));
        for (int i : NO_NIGHT) {
            due("crews(" + i + ")", NONE, x.crews(i));
        }
        due("none is REFUSED", 0, x.count(8) + x.status());
        LitStrangers y = Due.coast(0, 0, 1);
        due("at HOME, not HERE", 0, y.crews(NONE));
        due("crews(0)", NONE, y.crews(0));
        y.send(2);
        due("ON THE ROAD, not HERE", 0, y.crews(NONE));
        y.send(1);
        due("HERE", 1, y.crews(NONE));
        due("the one HERE", 2, y.crews(0));
        y.dark();
        due("two by now", 4, y.crews(1));
        y.light(2);
        due("who has BEEN there is none", 1, y.crews(NONE));
        x.terms(0, 999);
        due("on DAY 999 as on paper", 3, x.crews(NONE));
    }

    private static void crewsLeast() {
        D.promise(27, "by whom it can be LIT, and without any one of whom it can not");
        LitStrangers x = Due.here(5);
        x.hear(1, 1);
        x.hear(3, 1);
        x.hear(4, 2);
        int[] fair = {1, 4, 10};
        due("how many", 3, x.crews(NONE));
        for (int i = 0; i < fair.length; i++) {
            due("crews(" + i + ")", fair[i], x.crews(i));
        }
        x.fog(0, 1);
        int[] fog = {5, 11, 14};
        due("how many in FOG", 3, x.crews(NONE));
        for (int i = 0; i < fog.length; i++) {
            due("crews(" + i + ") in FOG", fog[i], x.crews(i));
        }
        Due.rule(x, "bars if person = 2");
        due("how many, one BARRED", 1, x.crews(NONE));
        due("the one", 11, x.crews(0));
    }

    private static void crewsFull() {
        D.promise(27, "10 PEOPLE at most");
        LitStrangers x = Due.here(10);
        due("ten", 10, x.crews(NONE));
        due("the tenth", 512, x.crews(9));
        x.fog(0, 1);
        due("pairs", 45, x.crews(NONE));
        due("the first", 3, x.crews(0));
        due("the last", 768, x.crews(44));
        due("behind it", NONE, x.crews(45));
        for (int p = 0; p < 10; p++) {
            x.hear(p, 1);
        }
        due("fours", 210, x.crews(NONE));
        due("the first", 15, x.crews(0));
        due("the second", 23, x.crews(1));
        due("the last", 960, x.crews(209));
        due("behind it", NONE, x.crews(210));
    }

    private static void share() {
        D.promise(28, "LAST less what it is without all of that LAND. NONE");
        LitStrangers x = Due.coast(0, 1, 2, 3);
        for (int land = 0; land < 4; land++) {
            due("share(" + land + ")", 4 - land, x.share(land));
        }
        int[] bad = {Integer.MIN_VALUE, -1, 4, Integer.MAX_VALUE};
        for (int land : bad) {
            due("share(" + land + ")", NONE, x.share(land));
        }
        due("none is REFUSED", 0, x.count(8) + x.status());
        LitStrangers y = new LitStrangers();
        for (int p = 0; p < 10; p++) {
            y.person(0, 3);
        }
        due("all of it", 10, y.share(3));
        due("nobody of it", 0, y.share(0));
        LitStrangers z = Due.coast(0, 9);
        due("one who is of no use", 0, z.share(1));
    }

    private static void harm() {
        D.promise(29, "how much WORTH others lose. NONE (one who has BEEN there, too)");
        LitStrangers x = ten();
        due("no TALKS", 0, x.harm(0));
        for (int p = 1; p < 10; p++) {
            x.talk(0, p, 1);
        }
        due("nine by 1", 9, x.harm(0));
        due("one by 1", 1, x.harm(9));
        Due.rule(x, "spoils 2");
        due("nine by 2", 18, x.harm(0));
        x.hear(1, 1);
        x.hear(2, 2);
        due("no more than there is: 1, 0", 15, x.harm(0));
        Due.rule(x, "spoils 0");
        due("by 0", 0, x.harm(0));
        x.force(NONE);
        int[] nobody = {Integer.MIN_VALUE, -1, 10, Integer.MAX_VALUE};
        for (int p : nobody) {
            due("harm(" + p + ")", NONE, x.harm(p));
        }
        x.send(3);
        x.light(8);
        due("who has BEEN there", NONE, x.harm(3));
        due("who has BEEN there has no WORTH to lose", 7, x.harm(0));
        due("one of WORTH 0 at HOME", 1, x.harm(2));
        due("none is REFUSED", 0, x.count(8) + x.count(9));
    }

    private static void hushNumbers() {
        D.promise(30, "n NIGHTS 1 .. 10; what 0, 1, 2. NONE (not by 2)");
        LitStrangers x = ten();
        int[] bad = {Integer.MIN_VALUE, -1, 0, 11, Integer.MAX_VALUE};
        for (int n : bad) {
            for (int what = 0; what < 3; what++) {
                due("n " + n, NONE, x.hush(n, what));
            }
        }
        int[] whats = {Integer.MIN_VALUE, -1, 3, Integer.MAX_VALUE};
        for (int what : whats) {
            due("what " + what, NONE, x.hush(1, what));
        }
        int[] nights = {1, 10};
        for (int n : nights) {
            due("nobody", 0, x.hush(n, 0));
            due("nobody", 0, x.hush(n, 1));
            due("one way", 1, x.hush(n, 2));
        }
        LitStrangers y = Due.coast(0, 0, 0, 0, 0, 0, 0, 0, 0);
        due("as many as LAST", 0, y.hush(9, 0));
        for (int what = 0; what < 3; what++) {
            due("more than there are PEOPLE", NONE, y.hush(10, what));
        }
        due("none is REFUSED", 0, x.count(8) + x.status());
    }

    private static void hushFewest() {
        D.promise(30, "the fewest PEOPLE, 0 .. 2, by whom LAST is n or more; the lowest as bits; in how many ways");
        LitStrangers x = Due.coast(0, 0, 0, 0);
        Due.rule(x, "spoils 2");
        for (int one = 0; one < 4; one++) {
            for (int other = 0; other < one; other++) {
                x.talk(one, other, 1);
            }
        }
        int[][] want = {{0, 0, 1}, {1, 1, 4}, {2, 3, 6}, {NONE, NONE, NONE}};
        for (int n = 1; n <= 4; n++) {
            for (int what = 0; what < 3; what++) {
                due("hush(" + n + ", " + what + ")", want[n - 1][what], x.hush(n, what));
            }
        }
        x.talk(0, 1, 0);
        due("two who do not TALK: two NIGHTS", 0, x.hush(2, 0));
        due("hush(3, 0)", 1, x.hush(3, 0));
        due("one of the others", 4, x.hush(3, 1));
        due("or the other", 2, x.hush(3, 2));
        due("hush(4, 0)", 2, x.hush(4, 0));
        due("both others", 12, x.hush(4, 1));
        due("in one way", 1, x.hush(4, 2));
        due("TALKS stay", 5, x.count(1));
    }

    private static void hushFull() {
        D.promise(30, "10 PEOPLE, all of whom TALK");
        LitStrangers x = ten();
        Due.rule(x, "spoils 2");
        for (int one = 0; one < 10; one++) {
            for (int other = 0; other < one; other++) {
                x.talk(one, other, 1);
            }
        }
        int[][] want = {{0, 0, 1}, {1, 1, 10}, {2, 3, 45}, {NONE, NONE, NONE}};
        for (int n = 1; n <= 10; n++) {
            for (int what = 0; what < 3; what++) {
                due("hush(" + n + ", " + what + ")", want[Math.min(n - 1, 3)][what], x.hush(n, what));
            }
        }
        x.force(NONE);
        // spoilt by 1, the nine others can light it by twos once more, then all have heard all
        due("LAST", 2, x.last(NONE));
        due("hush(2)", 0, x.hush(2, 0));
        due("hush(3)", 1, x.hush(3, 0));
        due("in ten ways", 10, x.hush(3, 2));
        due("hush(4)", 2, x.hush(4, 0));
        due("the lowest", 3, x.hush(4, 1));
        due("hush(5)", NONE, x.hush(5, 0));
    }

    private static void who() {
        D.promise(31, "each who has not, without whom LAST is just n 0 .. 10, as bits. NONE");
        LitStrangers x = ten();
        int[] bad = {Integer.MIN_VALUE, -2, -1, 11, Integer.MAX_VALUE};
        for (int n : bad) {
            due("who(" + n + ")", NONE, x.who(n));
        }
        due("who(9)", 1023, x.who(9));
        due("who(10)", 0, x.who(10));
        due("who(8)", 0, x.who(8));
        due("who(0)", 0, x.who(0));
        LitStrangers y = Due.coast(0, 1, 9, 1);
        y.hear(3, 2);
        due("LAST", 2, y.last(NONE));
        due("without the only one HERE till then", 1, y.who(0));
        due("without the second", 2, y.who(1));
        due("without those who are of no use", 12, y.who(2));
        due("not just n", 0, y.who(3));
        y.send(0);
        y.send(1);
        y.light(1);
        due("LAST", 1, y.last(NONE));
        due("who has BEEN there is none of them", 2, y.who(0));
        due("who has BEEN there is none of them", 12, y.who(1));
        LitStrangers z = Due.coast(0, 0);
        Due.rule(z, "spoils 2");
        z.talk(0, 1, 1);
        due("either alone does", 3, z.who(1));
        due("none is REFUSED", 0, x.count(8) + x.status());
    }

    private static void lastBehindOthers() {
        D.promise(22, "LAST is what it is, whatever was asked ahead of it");
        LitStrangers x = new LitStrangers();
        for (int p = 0; p < 4; p++) {
            x.person(0, 0);
        }
        x.talk(0, 1, 1);
        for (int round = 0; round < 2; round++) {
            due("LAST", 3, x.last(NONE));
            due("TURNS", 1, x.swaps(NONE));
            due("LAST behind TURNS", 3, x.last(NONE));
            due("CHEAP", 0, x.cheap(3, NONE));
            due("LAST behind CHEAP", 3, x.last(NONE));
            due("HUSH", 1, x.hush(4, 0));
            due("LAST behind HUSH", 3, x.last(NONE));
            due("SHARE", 3, x.share(0));
            due("LAST behind SHARE", 3, x.last(NONE));
            due("LATE", 2, x.late(3));
            due("WINTER", 3, x.winter(0, 1) + 2);
            due("LAST behind a WINTER", 3, x.last(NONE));
        }
        LitStrangers y = Due.coast(1, 0, 9);
        y.talk(1, 2, 1);
        due("one who TALKS to nobody stays fresh", 2, y.last(NONE));
        due("behind the second", 2, y.last(0));
        due("the first", 1, y.last(1));
        LitStrangers z = Due.coast(1, 0, 9, 1);
        z.hear(0, 1);
        z.hear(3, 1);
        z.talk(1, 2, 1);
        due("two of WORTH 1 who TALK to nobody stay so", 9, z.last(1));
    }

    private static void cheapSpoilt() {
        D.promise(23, "n NIGHTS: by who TALKS to whom");
        LitStrangers x = Due.coast(0, 0, 0);
        Due.rule(x, "costs 5 * person + 1");
        x.talk(0, 1, 1);
        due("the cheapest two spoil one another", 1 + 11, x.cheap(2, NONE));
        due("NIGHT 0", 1, x.cheap(2, 0));
        due("NIGHT 1", 4, x.cheap(2, 1));
        due("all three", NONE, x.cheap(3, NONE));
        x.talk(0, 1, 0);
        due("no more", 1 + 6, x.cheap(2, NONE));
        x.talk(2, 1, 1);
        due("others", 1 + 6, x.cheap(2, NONE));
    }

    private static void lateAgain() {
        D.promise(25, "in any ROW, however many ways lead to it");
        due("LAST is 2", 0, Due.coast(0, 1).late(0));
        due("LAST is 4", 0, Due.coast(0, 1, 2, 3).late(0));
        due("LAST is 4", 1, Due.coast(0, 1, 2, 3).late(1));
        due("LAST is 4", 2, Due.coast(0, 1, 2, 3).late(2));
        LitStrangers x = Due.coast(0, 0, 0);
        Due.rule(x, "bars if person = 0 and day > 1");
        due("not on NIGHT 2", 1, x.late(0));
        due("the others are", 2, x.late(1));
        due("the others are", 2, x.late(2));
        Due.rule(x, "bars if person = 2 and (day = 0 or day = 2) or person = 0 and day = 2");
        due("the only ROW", 1, x.ways(3));
        due("0 is its first", 0, x.late(0));
        due("2 its second", 1, x.late(2));
        due("1 its last", 2, x.late(1));
        x.force(NONE);
        due("as ahead of the LAW", 2, x.late(0));
        x.fog(2, 1);
        due("two NIGHTS by FOG", 1, x.late(0));
        x.fog(2, 0);
        Due.rule(x, "spoils 0;spoils 2 if person = 2;bars if person = 2 and day > 0");
        x.talk(2, 0, 1);
        x.talk(2, 1, 1);
        due("who leaves nobody to go on is in no such ROW", NONE, x.late(2));
        due("the others are", 1, x.late(0));
    }

    private static void lateSpoilt() {
        D.promise(25, "LATE by who TALKS to whom");
        LitStrangers x = Due.coast(0, 0, 0);
        due("any last", 2, x.late(0));
        Due.rule(x, "spoils 2;spoils 0 if person > 0");
        x.talk(0, 1, 1);
        due("who SPOILS another goes behind", 2, x.late(0));
        due("who would be spoilt goes ahead", 1, x.late(1));
        due("the third is anywhere", 2, x.late(2));
        x.talk(0, 2, 1);
        due("now last of all", 2, x.late(0));
        due("now ahead", 1, x.late(2));
        due("NIGHTS", 3, x.last(NONE));
    }

    private static void swapsSpoilt() {
        D.promise(26, "TURNS by who TALKS to whom");
        LitStrangers x = Due.coast(0, 0, 0);
        x.talk(0, 1, 1);
        due("NIGHTS", 2, x.swaps(NONE));
        due("NIGHT 0", 1, x.swaps(0));
        due("NIGHT 1", 4, x.swaps(1));
        Due.rule(x, "spoils 0");
        due("by 0", 3, x.swaps(NONE));
    }

    private static void hushOneWay() {
        D.promise(30, "if they TALK to nobody: neither SPOIL nor are spoilt");
        for (int spoiler = 0; spoiler < 2; spoiler++) {
            LitStrangers x = Due.coast(spoiler, 1 - spoiler, 2);
            // the spoiler is the only one here this night; the third comes last and matters to nobody
            Due.rule(x, "spoils 0;spoils 2 if person = " + spoiler);
            x.talk(0, 1, 1);
            due("LAST", 1, x.last(NONE));
            due("one", 1, x.hush(3, 0));
            due("the lowest", 1, x.hush(3, 1));
            due("either", 2, x.hush(3, 2));
            LitStrangers two = Due.coast(spoiler, 1 - spoiler);
            Due.rule(two, "spoils 0;spoils 2 if person = " + spoiler);
            two.talk(0, 1, 1);
            due("of two the lowest", 1, two.hush(2, 1));
            due("of two either", 2, two.hush(2, 2));
        }
        LitStrangers y = Due.coast(0, 1, 1);
        Due.rule(y, "spoils 0;spoils 1 if person = 0");
        y.talk(0, 1, 1);
        y.talk(0, 2, 1);
        due("two of WORTH 1 are left", 2, y.last(NONE));
        due("one", 1, y.hush(3, 0));
        due("the one who SPOILS", 1, y.hush(3, 1));
        due("no other", 1, y.hush(3, 2));
        y.send(0);
        y.light(1);
        due("who has BEEN there SPOILS nobody more", NONE, y.hush(2, 0));
    }

    /** The first spoils others so that two of them make one crew: the same people light it for fewer nights. */
    private static LitStrangers meeting(int... lands) {
        LitStrangers x = new LitStrangers();
        for (int land : lands) {
            x.person(0, land);
        }
        Due.rule(x, "spoils 0;spoils 1 if person = 0");
        return x;
    }

    private static void dueRow(LitStrangers x, boolean turns, int... crews) {
        due("how many NIGHTS", crews.length, turns ? x.swaps(NONE) : x.last(NONE));
        for (int i = 0; i < crews.length; i++) {
            due("NIGHT " + i, crews[i], turns ? x.swaps(i) : x.last(i));
        }
        due("behind the last", NONE, turns ? x.swaps(crews.length) : x.last(crews.length));
    }

    private static void rowsThatMeet() {
        D.promise(26, "the first such ROW, though the same PEOPLE make a shorter one ahead of it");
        LitStrangers x = meeting(0, 1, 2, 3);
        x.talk(0, 1, 1);
        x.talk(0, 2, 1);
        dueRow(x, true, 2, 4, 1, 8);
        LitStrangers y = meeting(2, 0, 1, 2, 3, 0, 1);
        for (int other = 1; other < 5; other++) {
            y.talk(0, other, 1);
        }
        dueRow(y, true, 2, 4, 8, 16, 1, 32, 64);
        LitStrangers z = meeting(1, 0, 1, 2);
        z.talk(0, 1, 1);
        z.talk(0, 2, 1);
        dueRow(z, true, 2, 4, 8, 1);
        D.promise(22, "the first ROW, though the same PEOPLE make a shorter one ahead of it");
        dueRow(x, false, 2, 4, 1, 8);
        dueRow(y, false, 2, 4, 8, 16, 1, 32, 64);
        D.promise(23, "the first ROW, though the same PEOPLE make a shorter one ahead of it");
        due("COSTS", 0, x.cheap(4, NONE));
        due("NIGHT 0", 2, x.cheap(4, 0));
        due("NIGHT 2", 1, x.cheap(4, 2));
        due("NIGHT 3", 8, x.cheap(4, 3));
        due("three NIGHTS", 1, x.cheap(3, 0));
        due("by two of WORTH 1", 6, x.cheap(3, 1));
        D.promise(25, "LATE, though the same PEOPLE make a shorter ROW");
        due("who SPOILS the two", 3, x.late(0));
        due("who is spoilt", 2, x.late(1));
        due("who is not", 3, x.late(3));
    }

    /** The first lets those who come last hear all; whoever lights it between tells them nothing. */
    private static void heardAllStays() {
        D.promise(22, "2 at most: who has HEARD all stays so, whoever lights it then");
        LitStrangers x = Due.coast(0, 1, 2, 2);
        Due.rule(x, "spoils 2");
        x.talk(0, 2, 1);
        x.talk(0, 3, 1);
        dueRow(x, false, 1, 2);
        D.promise(23, "2 at most, on paper");
        due("COSTS of two NIGHTS", 1, x.cheap(2, NONE));
        due("three NIGHTS", NONE, x.cheap(3, NONE));
        D.promise(24, "2 at most, on paper");
        due("two NIGHTS", 1, x.ways(2));
        due("three NIGHTS", 0, x.ways(3));
        D.promise(25, "2 at most, on paper");
        due("who has HEARD all", NONE, x.late(2));
        due("who has not", 1, x.late(1));
        D.promise(26, "2 at most, on paper");
        dueRow(x, true, 1, 2);
        D.promise(28, "2 at most, on paper");
        due("who SPOILS", 2, x.share(0));
        due("who has HEARD all", 0, x.share(2));
        D.promise(30, "2 at most, on paper");
        due("the fewest", 1, x.hush(3, 0));
        due("the one who SPOILS", 1, x.hush(4, 1));
        due("or one who is spoilt", 3, x.hush(3, 2));
        D.promise(31, "2 at most, on paper");
        due("those without whom it is as before", 12, x.who(2));
        D.promise(22, "2 at most, by each of a CREW in order");
        for (int teller = 0; teller < 2; teller++) {
            LitStrangers y = Due.coast(0, 0, 1, 1);
            Due.rule(y, "spoils 2");
            y.hear(0, 1);
            y.hear(1, 1);
            y.talk(teller, 2, 1);
            y.talk(teller, 3, 1);
            dueRow(y, false, 3);
            y.talk(1 - teller, 3, 1);
            dueRow(y, false, 3);
        }
        LitStrangers z = Due.coast(0, 0, 1, 1);
        z.hear(0, 1);
        z.hear(1, 1);
        for (int one = 0; one < 2; one++) {
            z.talk(one, 2, 1);
            z.talk(one, 3, 1);
        }
        dueRow(z, false, 3);
        z.talk(1, 3, 0);
        z.talk(0, 2, 0);
        dueRow(z, false, 3, 12);
    }

    private static void rowsThatMeetAgain() {
        D.promise(26, "the first such ROW: the same PEOPLE a NIGHT earlier, by a CREW of other LANDS");
        LitStrangers x = meeting(0, 1, 3, 0);
        x.talk(0, 2, 1);
        x.talk(0, 3, 1);
        // of lands 1, 0, 3, 0; behind 1 and 0 the two others, of lands 3 and 0, could only light it together
        dueRow(x, true, 2, 8, 4, 1);
        D.promise(25, "in any ROW: the same PEOPLE a NIGHT earlier and a NIGHT later, in FOG");
        int[][] people = {{0, 0}, {3, 0}, {1, 0}, {0, 1}, {1, 0}, {0, 3}};
        LitStrangers y = new LitStrangers();
        for (int[] one : people) {
            y.person(one[0], one[1]);
        }
        Due.rule(y, "spoils 0;spoils 1 if person = 4;spoils 1 if person = 3");
        int[][] talks = {{0, 4}, {2, 4}, {3, 2}, {5, 4}, {3, 5}};
        for (int[] two : talks) {
            y.talk(two[0], two[1], 1);
        }
        y.fog(1, 1);
        y.fog(4, 1);
        due("LAST", 4, y.last(NONE));
        int[] late = {2, 3, 1, 3, 3, 1};
        for (int p = 0; p < late.length; p++) {
            due("late(" + p + ")", late[p], y.late(p));
        }
    }
}
