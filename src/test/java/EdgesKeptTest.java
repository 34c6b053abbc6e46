/** The boundary cases of promises 32 to 37: winters, what was drawn, images, counts, the status. */
public final class EdgesKeptTest {
    private static final Due D = new Due("EdgesKeptTest");
    private static final int NONE = -1;

    public static void main(String[] args) {
        winterNumbers();
        winterDraws();
        winterFog();
        winterDark();
        winterCrews();
        winterHeard();
        winterHeardAll();
        winterOnPaper();
        drawn();
        imageNumbers();
        imageAgain();
        backKeeps();
        backKeepsNot();
        backToEmpty();
        imagesApart();
        countNumbers();
        countRefused();
        countKept();
        countOfMany();
        statusOfEach();
        statusOfOthers();
        D.covers(32, 37);
        D.close();
    }

    private static void due(String what, long want, long got) {
        D.due(what, want, got);
    }

    private static void winterNumbers() {
        D.promise(32, "SEED 0 .. 1,000,000, n NIGHTS 1 .. 60. -1");
        LitStrangers x = Due.here(1);
        x.terms(1, 0);
        int[] seeds = {Integer.MIN_VALUE, -1, 1_000_001, 1_000_003, Integer.MAX_VALUE};
        for (int seed : seeds) {
            due("SEED " + seed, -1, x.winter(seed, 1));
        }
        int[] nights = {Integer.MIN_VALUE, -1, 0, 61, Integer.MAX_VALUE};
        for (int n : nights) {
            due(n + " NIGHTS", -1, x.winter(0, n));
        }
        due("refused", seeds.length + nights.length, x.count(8));
        due("none is kept", NONE, x.drawn(0));
        due("one NIGHT", 1, x.winter(0, 1));
        due("NIGHT 0", 1, x.drawn(0));
        due("NIGHT 1", NONE, x.drawn(1));
        due("sixty NIGHTS", 1, x.winter(1_000_000, 60));
        due("NIGHT 59", 0, x.drawn(59));
        due("NIGHT 60", NONE, x.drawn(60));
        due("status", 0, x.status());
    }

    /** Whether there is fog, by the document's own sum. */
    private static boolean[] fogs(int seed, int foggy) {
        boolean[] fogs = new boolean[60];
        long s = seed;
        for (int k = 0; k < 60; k++) {
            s = (s * 1103 + 12345) % 1_000_003;
            fogs[k] = s % 10 < foggy;
        }
        return fogs;
    }

    private static void winterDraws() {
        D.promise(32, "s becomes (s times 1103 and 12345) modulo 1,000,003; below FOGGY there is FOG");
        int[] seeds = {0, 1, 7, 906, 907, 99_999, 999_999, 1_000_000};
        for (int foggy = 0; foggy <= 10; foggy++) {
            for (int seed : seeds) {
                LitStrangers x = Due.here(10);
                x.terms(1, foggy);
                boolean[] fogs = fogs(seed, foggy);
                int answer = x.winter(seed, 60);
                int gone = 0;
                int lit = 0;
                for (int k = 0; k < 60; k++) {
                    int people = fogs[k] ? 2 : 1;
                    int crew = gone + people > 10 ? 0 : ((1 << people) - 1) << gone;
                    gone += crew == 0 ? 0 : people;
                    lit += crew == 0 ? 0 : 1;
                    due("SEED " + seed + ", FOGGY " + foggy + ", NIGHT " + k, crew, x.drawn(k));
                }
                due("SEED " + seed + ", FOGGY " + foggy, lit, answer);
            }
        }
    }

    private static void winterFog() {
        D.promise(32, "FOG as told aside");
        LitStrangers x = Due.here(2);
        for (int day = 0; day < 100; day++) {
            x.fog(day, 1);
        }
        x.terms(1, 0);
        due("FOGGY 0: none", 2, x.winter(0, 2));
        due("one", 1, x.drawn(0));
        Due.rule(x, "bars if fog = 1");
        due("nor does the LAW see any", 2, x.winter(0, 2));
        x.terms(1, 10);
        due("the LAW sees what was drawn", 0, x.winter(0, 2));
        x.force(NONE);
        LitStrangers y = Due.here(3);
        y.terms(1, 10);
        due("FOGGY 10: each NIGHT", 1, y.winter(0, 60));
        due("two", 3, y.drawn(0));
        due("one is left", 0, y.drawn(1));
        Due.rule(y, "bars if fog = 0");
        due("FOG for the LAW, too", 1, y.winter(5, 3));
    }

    private static void winterDark() {
        D.promise(32, "the CREW that is lowest as bits lights it, or it is DARK");
        LitStrangers x = Due.coast(2, 0);
        x.terms(1, 0);
        Due.rule(x, "takes 59 if person = 0");
        due("both", 2, x.winter(0, 60));
        due("the one HERE", 2, x.drawn(0));
        due("DARK", 0, x.drawn(1));
        due("DARK", 0, x.drawn(58));
        due("who comes on the last NIGHT", 1, x.drawn(59));
        Due.rule(x, "takes 60 if person = 0");
        due("one comes too late", 1, x.winter(0, 60));
        due("DARK", 0, x.drawn(59));
        LitStrangers y = new LitStrangers();
        due("nobody", 0, y.winter(0, 60));
        due("DARK", 0, y.drawn(0));
        due("DARK", 0, y.drawn(59));
        LitStrangers z = Due.here(3);
        z.terms(1, 0);
        z.hear(0, 1);
        z.hear(1, 1);
        z.winter(0, 3);
        due("3 is lower than 4", 3, z.drawn(0));
        due("then 4", 4, z.drawn(1));
    }

    private static void winterCrews() {
        D.promise(32, "on paper as above: spoilt, BARRED, behind 999");
        LitStrangers x = Due.coast(0, 0, 3);
        x.terms(1, 0);
        x.talk(0, 1, 1);
        x.talk(0, 2, 1);
        due("LIT", 2, x.winter(0, 10));
        due("NIGHT 0", 1, x.drawn(0));
        due("one of WORTH 1 waits", 0, x.drawn(1));
        due("one of WORTH 1 waits", 0, x.drawn(2));
        due("for the other", 6, x.drawn(3));
        Due.rule(x, "spoils 2");
        due("LIT", 1, x.winter(0, 10));
        Due.rule(x, "spoils 0;bars if day < 1000");
        x.terms(0, 998);
        due("behind 999", 3, x.winter(0, 5));
        due("DAY 998", 0, x.drawn(0));
        due("DAY 999", 0, x.drawn(1));
        due("DAY 1000", 1, x.drawn(2));
        due("DAY 1001", 2, x.drawn(3));
        due("DAY 1002", 4, x.drawn(4));
    }

    private static void winterOnPaper() {
        D.promise(32, "on paper");
        LitStrangers x = Due.coast(0, 0);
        x.talk(0, 1, 1);
        x.dark();
        x.winter(3, 60);
        due("people", 2, x.count(0));
        due("LIT", 0, x.count(2));
        due("DARK", 1, x.count(3));
        due("SPENT", 0, x.count(4));
        due("what can be undone", 1, x.count(6));
        due("DAY", 1, x.count(14));
        due("HOME", 0, x.of(0, 3));
        due("HEARD", 0, x.of(1, 2));
    }

    private static void drawn() {
        D.promise(33, "The CREW of NIGHT k of the latest WINTER (0: DARK). NONE");
        LitStrangers x = Due.here(2);
        x.terms(1, 0);
        due("ahead of any", NONE, x.drawn(0));
        x.winter(0, 60);
        int[] bad = {Integer.MIN_VALUE, -2, -1, 60, 61, Integer.MAX_VALUE};
        for (int k : bad) {
            due("drawn(" + k + ")", NONE, x.drawn(k));
        }
        due("NIGHT 1", 2, x.drawn(1));
        due("NIGHT 59", 0, x.drawn(59));
        x.winter(0, 61);
        x.winter(-1, 1);
        due("one that is REFUSED leaves it", 2, x.drawn(1));
        due("one that is REFUSED leaves it", 0, x.drawn(59));
        x.image(0);
        x.winter(0, 1);
        due("a shorter one", 1, x.drawn(0));
        due("has no NIGHT 1", NONE, x.drawn(1));
        x.back(0);
        due("IMAGES do not keep it", NONE, x.drawn(1));
        x.light(1);
        due("it stays", 1, x.drawn(0));
        due("none is REFUSED", 2, x.count(8));
    }

    private static void imageNumbers() {
        D.promise(34, "IMAGES 0, 1: 0; -1");
        LitStrangers x = new LitStrangers();
        int[] bad = {Integer.MIN_VALUE, -2, -1, 2, 3, Integer.MAX_VALUE};
        for (int k : bad) {
            due("image(" + k + ")", -1, x.image(k));
        }
        due("refused", bad.length, x.count(8));
        due("none is kept", -2, x.back(0));
        due("none is kept", -2, x.back(1));
        due("image(1)", 0, x.image(1));
        due("status", 0, x.status());
        due("the other is not kept", -2, x.back(0));
        due("back(1)", 0, x.back(1));
        due("image(0)", 0, x.image(0));
        due("back(0)", 0, x.back(0));
    }

    private static void imageAgain() {
        D.promise(34, "IMAGE k is kept");
        LitStrangers x = new LitStrangers();
        x.person(1, 1);
        x.image(0);
        x.person(2, 2);
        x.image(1);
        x.person(3, 3);
        x.image(0);
        x.back(1);
        due("the other one", 2, x.count(0));
        x.back(0);
        due("kept again", 3, x.count(0));
        x.dark();
        x.image(0);
        due("what can be undone stays behind image()", 1, x.count(6));
        x.back(0);
        due("kept of what stood then", 1, x.count(3));
    }

    private static LitStrangers full() {
        LitStrangers x = Due.coast(0, 0, 3, 30);
        x.talk(0, 1, 1);
        x.talk(2, 3, 1);
        x.fog(0, 1);
        x.fog(99, 1);
        x.terms(1, 10);
        x.terms(2, 9);
        x.hear(3, 2);
        Due.rule(x, "lodges 7");
        Due.law(x, "takes 1");
        x.send(0);
        x.send(2);
        x.dark();
        x.light(1);
        x.send(1);
        return x;
    }

    private static void dueFull(LitStrangers x) {
        int[] counts = {4, 2, 1, 1, 10, 2};
        for (int what = 0; what < counts.length; what++) {
            due("count(" + what + ")", counts[what], x.count(what));
        }
        due("FORCE", 0, x.count(13));
        due("DAY", 2, x.count(14));
        due("FOGGY", 10, x.count(15));
        due("MOOD", 9, x.count(16));
        int[][] people = {{0, 0, 0, 3, -1, 0}, {0, 1, 1, 2, -1, 1}, {3, 2, 0, 1, 3, 2}, {30, 3, 2, 0, -1, 0}};
        for (int p = 0; p < 4; p++) {
            for (int what = 0; what < 6; what++) {
                due("of(" + p + ", " + what + ")", people[p][what], x.of(p, what));
            }
        }
        due("LODGES", 7, x.asks(0, 0, 2));
        due("FOG of DAY 0", 1, x.fog(0, 1));
        due("FOG of DAY 1", 0, x.fog(1, 0));
        due("FOG of DAY 99", 1, x.fog(99, 1));
        due("0 and 1 TALK", 1, x.talk(0, 1, 1));
        due("2 and 3 TALK", 1, x.talk(3, 2, 1));
        due("0 and 2 do not", 0, x.talk(0, 2, 0));
    }

    private static void upset(LitStrangers x) {
        x.dark();
        x.hear(1, 2);
        x.talk(0, 1, 0);
        x.talk(0, 2, 1);
        x.fog(0, 0);
        x.fog(1, 1);
        x.fog(99, 0);
        x.terms(0, 500);
        x.terms(1, 1);
        x.terms(2, 1);
        x.person(9, 0);
        x.send(3);
        Due.rule(x, "lodges 8");
        x.dark();
    }

    private static void backKeeps() {
        D.promise(35, "BACK to one all that it keeps is as it was then (IMAGES stay)");
        LitStrangers x = full();
        dueFull(x);
        x.image(0);
        upset(x);
        due("another one by now", 5, x.count(0));
        x.image(1);
        due("back", 0, x.back(0));
        dueFull(x);
        upset(x);
        due("back again", 0, x.back(0));
        dueFull(x);
        due("the other", 0, x.back(1));
        due("people", 5, x.count(0));
        due("the LAW", 2, x.count(13));
        due("what it tells", 8, x.asks(4, 0, 2));
        due("DAY", 501, x.count(14));
        due("the third one's road", 2, x.of(2, 3));
        int[] bad = {Integer.MIN_VALUE, -1, 2, 3, Integer.MAX_VALUE};
        for (int k : bad) {
            due("back(" + k + ")", -1, x.back(k));
        }
        due("nothing changed", 501, x.count(14));
        LitStrangers y = new LitStrangers();
        due("-1 ahead of -2", -1, y.back(2));
        due("not kept", -2, y.back(1));
        due("not kept", -2, y.back(0));
    }

    private static void backKeepsNot() {
        D.promise(35, "all but the TAPE, FAULT, SALT, where ORDERS stopped, what can be undone, the latest WINTER");
        LitStrangers x = Due.here(1);
        Due.put(x, "takes 5");
        x.image(0);
        x.terms(1, 0);
        Due.put(x, new byte[] {99, 0, 0, 99, 0});
        x.row();
        Due.orders(x, "dark;send 9");
        Due.law(x, "takes ?");
        x.winter(0, 4);
        x.dark();
        Due.put(x, "costs 8");
        due("back", 0, x.back(0));
        due("SALT", 2, x.salt());
        due("stopped", 1, x.stopped());
        due("FAULT", 6, x.fault());
        due("the WINTER", 1, x.drawn(0));
        due("its last NIGHT", 0, x.drawn(3));
        due("nothing can be undone", 0, x.count(6));
        due("undo", -3, x.undo());
        due("the TAPE", 7, x.count(7));
        due("is read as a LAW", 0, x.law());
        x.force(0);
        due("which tells what was on the TAPE", 8, x.asks(0, 0, 1));
    }

    private static void backToEmpty() {
        D.promise(35, "to a coast with nobody, from a full one");
        LitStrangers x = new LitStrangers();
        x.image(0);
        Due.put(x, new byte[30]);
        x.row();
        for (int i = 0; i < 6; i++) {
            Due.law(x, "takes 0");
        }
        x.force(5);
        x.talk(8, 9, 1);
        x.send(9);
        x.light(512);
        x.back(0);
        int[] counts = {0, 0, 0, 0, 0, 0, 0};
        for (int what = 0; what < counts.length; what++) {
            due("count(" + what + ")", counts[what], x.count(what));
        }
        due("FORCE", NONE, x.count(13));
        due("no LAW", -2, x.force(0));
        due("nobody", -2, x.send(0));
        due("a new one", 0, x.person(4, 3));
        due("whose road is", 4, x.of(0, 0));
        for (int p = 1; p < 10; p++) {
            x.person(0, 0);
        }
        due("who TALK to nobody", 0, x.count(1));
        due("and are at HOME", 0, x.of(9, 3));
        due("and have HEARD nothing", 2, x.of(9, 5));
        due("a new LAW", 0, Due.law(x, "takes 1"));
    }

    private static void countNumbers() {
        D.promise(36, "0 .. 16. NONE for others");
        LitStrangers x = full();
        int[] others = {Integer.MIN_VALUE, -2, -1, 17, 18, Integer.MAX_VALUE};
        for (int what : others) {
            due("count(" + what + ")", NONE, x.count(what));
        }
        int[] counts = {4, 2, 1, 1, 10, 2, 5, 0, 0, 0, 0, 0, 0, 0, 2, 10, 9};
        for (int what = 0; what < counts.length; what++) {
            due("count(" + what + ")", counts[what], x.count(what));
        }
        x.feed(0, 0, 0, 0, 0);
        due("bytes", 20, x.count(7));
        x.force(1);
        due("FORCE", 1, x.count(13));
        x.force(NONE);
        due("FORCE", NONE, x.count(13));
    }

    private static void countRefused() {
        D.promise(36, "8 .. 12 how many calls were REFUSED by -1, -2, -3, -5, -6");
        LitStrangers x = new LitStrangers();
        int[] counts = new int[5];
        for (int round = 1; round <= 3; round++) {
            for (int by = 0; by < 5; by++) {
                refused(x, by);
                counts[by]++;
                for (int what = 0; what < 5; what++) {
                    due("count(" + (8 + what) + ")", counts[what], x.count(8 + what));
                }
            }
        }
        x.feed(0, 0, 0, 0, 0);
        x.end(99);
        x.end(-1);
        x.of(99, 99);
        x.asks(99, 99, 99);
        x.cheap(0, 0);
        x.ways(99);
        x.hush(0, 0);
        x.count(99);
        for (int what = 0; what < 5; what++) {
            due("NONE is no refusal, " + (8 + what), 3, x.count(8 + what));
        }
    }

    private static void refused(LitStrangers x, int by) {
        switch (by) {
            case 0:
                due("by -1", -1, x.person(31, 0));
                break;
            case 1:
                due("by -2", -2, x.send(99));
                break;
            case 2:
                due("by -3", -3, x.undo());
                break;
            case 3:
                Due.put(x, new byte[30]);
                x.row();
                due("by -5", -5, x.person(0, 0));
                break;
            default:
                due("by -6", -6, x.row());
                break;
        }
    }

    private static void countKept() {
        D.promise(36, "IMAGES do not keep that");
        LitStrangers x = new LitStrangers();
        x.person(31, 0);
        x.image(0);
        x.person(31, 0);
        x.send(0);
        x.undo();
        x.row();
        x.back(0);
        due("by -1", 2, x.count(8));
        due("by -2", 1, x.count(9));
        due("by -3", 1, x.count(10));
        due("by -5", 0, x.count(11));
        due("by -6", 1, x.count(12));
    }

    private static void refuses(LitStrangers x, String call, int want, int answer) {
        due(call, want, answer);
        due("status behind " + call, want, x.status());
    }

    private static void takes(LitStrangers x, String call, int want, int answer) {
        due(call, want, answer);
        due("status behind " + call, 0, x.status());
        x.winter(-1, 0);
        due("status behind a refused winter", -1, x.status());
    }

    private static void statusOfEach() {
        D.promise(37, "What the latest call was REFUSED by; 0 if it was not");
        LitStrangers x = new LitStrangers();
        due("ahead of any", 0, x.status());
        refuses(x, "person", -1, x.person(31, 0));
        refuses(x, "hear", -2, x.hear(0, 0));
        refuses(x, "talk", -1, x.talk(0, 0, 0));
        refuses(x, "talk", -2, x.talk(0, 1, 0));
        refuses(x, "fog", -1, x.fog(100, 0));
        refuses(x, "row", -6, x.row());
        refuses(x, "terms", -1, x.terms(3, 0));
        refuses(x, "law", -6, x.law());
        refuses(x, "force", -2, x.force(0));
        refuses(x, "orders", -6, x.orders());
        refuses(x, "send", -2, x.send(0));
        refuses(x, "light", -1, x.light(0));
        refuses(x, "light", -2, x.light(1));
        refuses(x, "undo", -3, x.undo());
        refuses(x, "winter", -1, x.winter(0, 0));
        refuses(x, "back", -2, x.back(0));
        refuses(x, "image", -1, x.image(2));
        refuses(x, "back", -1, x.back(2));
        takes(x, "person", 0, x.person(0, 0));
        takes(x, "hear", 0, x.hear(0, 0));
        x.person(1, 0);
        x.image(2);
        takes(x, "talk", 0, x.talk(0, 1, 0));
        takes(x, "fog", 0, x.fog(99, 0));
        takes(x, "terms", 0, x.terms(0, 0));
        takes(x, "force", -1, x.force(NONE));
        takes(x, "send", 0, x.send(0));
        takes(x, "light", 2, x.light(1));
        refuses(x, "light", -3, x.light(1));
        refuses(x, "hear", -3, x.hear(0, 0));
        takes(x, "dark", 1, x.dark());
        takes(x, "undo", 2, x.undo());
        takes(x, "winter", 0, x.winter(0, 1));
        takes(x, "image", 0, x.image(0));
        takes(x, "back", 0, x.back(0));
        Due.put(x, "dark");
        takes(x, "orders", 1, x.orders());
        Due.put(x, "send 9");
        refuses(x, "orders", -3, x.orders());
        Due.put(x, "bars");
        takes(x, "law", 0, x.law());
        Due.put(x, new byte[1]);
        takes(x, "row", 0, x.row());
        x.terms(0, 999);
        refuses(x, "dark", -3, x.dark());
        x.send(1);
        refuses(x, "send", -3, x.send(1));
        refuses(x, "terms", -3, x.terms(0, 0));
    }

    private static void statusOfOthers() {
        D.promise(37, "of person .. back: others leave it");
        LitStrangers x = Due.here(2);
        x.row();
        x.of(0, 0);
        x.of(9, 9);
        x.feed(0, 0, 0, 0, 0);
        x.end(21);
        x.end(0);
        x.salt();
        x.fault();
        x.stopped();
        x.asks(0, 1, 0);
        x.asks(9, 9, 9);
        x.last(NONE);
        x.cheap(1, NONE);
        x.cheap(0, 0);
        x.ways(1);
        x.ways(-1);
        x.late(0);
        x.late(9);
        x.swaps(NONE);
        x.crews(NONE);
        x.share(0);
        x.share(4);
        x.harm(0);
        x.harm(9);
        x.hush(1, 0);
        x.hush(0, 0);
        x.who(0);
        x.who(11);
        x.drawn(0);
        x.count(0);
        x.count(17);
        due("status", -6, x.status());
        due("status again", -6, x.status());
        due("nothing more was REFUSED", 1, x.count(8) + x.count(9) + x.count(10) + x.count(11) + x.count(12));
        x.fog(0, 0);
        x.of(9, 9);
        x.feed(0, 0, 0, 0, 0);
        x.end(21);
        due("nor do they when it is 0", 0, x.status());
    }

    private static void winterHeard() {
        D.promise(32, "n NIGHTS, no more; BARRED by what is HEARD by then");
        LitStrangers x = Due.here(3);
        x.terms(1, 0);
        due("one NIGHT", 1, x.winter(0, 1));
        due("two", 2, x.winter(0, 2));
        due("three", 3, x.winter(0, 3));
        x.hear(1, 1);
        x.hear(2, 1);
        Due.rule(x, "bars if heard = 0");
        due("those who have HEARD nothing are BARRED", 1, x.winter(0, 2));
        due("the others", 6, x.drawn(0));
        Due.rule(x, "bars if heard = 1");
        due("those who have HEARD of it are BARRED", 1, x.winter(0, 2));
        due("the one who has not", 1, x.drawn(0));
        Due.rule(x, "bars if heard = 1 and day = 0;bars if heard = 0 and day = 1");
        due("each on a DAY", 1, x.drawn(0));
        due("both", 2, x.winter(0, 2));
        due("then the others", 6, x.drawn(1));
        x.talk(0, 1, 1);
        due("who HEARS all then is none", 1, x.winter(0, 2));
    }

    private static void imagesApart() {
        D.promise(35, "PEOPLE, LAWS of the same numbers are others in each IMAGE");
        LitStrangers x = new LitStrangers();
        x.image(0);
        x.person(5, 1);
        Due.rule(x, "lodges 7");
        x.send(0);
        x.image(1);
        x.back(0);
        x.person(9, 2);
        Due.rule(x, "lodges 8");
        x.terms(0, 3);
        x.send(0);
        x.image(0);
        for (int round = 0; round < 2; round++) {
            x.back(1);
            due("ROAD", 5, x.of(0, 0));
            due("LAND", 1, x.of(0, 1));
            due("till", 5, x.of(0, 4));
            due("LODGES", 7, x.asks(0, 0, 2));
            x.back(0);
            due("ROAD", 9, x.of(0, 0));
            due("LAND", 2, x.of(0, 1));
            due("till", 12, x.of(0, 4));
            due("LODGES", 8, x.asks(0, 0, 2));
        }
    }

    private static void winterHeardAll() {
        D.promise(32, "2 at most: who has HEARD all stays so, whoever lights it then");
        LitStrangers x = Due.coast(0, 1, 2, 2);
        x.terms(1, 0);
        Due.rule(x, "spoils 2");
        x.talk(0, 2, 1);
        x.talk(0, 3, 1);
        int[] crews = {1, 2, 0, 0};
        due("LIT", 2, x.winter(0, 60));
        for (int k = 0; k < crews.length; k++) {
            due("NIGHT " + k, crews[k], x.drawn(k));
        }
        Due.rule(x, "spoils 1");
        due("of WORTH 1 they light it together", 3, x.winter(0, 60));
        due("NIGHT 2", 12, x.drawn(2));
    }

    private static void countOfMany() {
        D.promise(36, "how many calls were REFUSED: all but one of 512");
        LitStrangers x = new LitStrangers();
        int[] by = {-1, -2, -3, -6};
        for (int i = 0; i < 508; i++) {
            int answer = i % 4 == 0 ? x.image(2) : i % 4 == 1 ? x.back(1) : i % 4 == 2 ? x.undo() : x.row();
            due("call " + i, by[i % 4], answer);
        }
        due("by -1", 127, x.count(8));
        due("by -3", 127, x.count(10));
        due("by -5", 0, x.count(11));
        due("by -6", 127, x.count(12));
    }
}
