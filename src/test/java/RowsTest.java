import java.util.Random;

/** Fuller coasts by draws: all that is asked on paper, held against PlainCoast's rows. */
public final class RowsTest {
    private static final String[] LAWS = {
        "takes 0",
        "takes road % 3;spoils 2 if theirs = land;spoils 0 if far > 4",
        "bars if day % 3 = 1 and heard = 1",
        "bars if fog = 1 and land = 2 or heard = 0 and day > 2 and person = 1",
        "takes heard + mood;costs 7 * [person + 1] % 5;spoils other % 3",
        "takes 1 if fog = 1;takes 0 if fog = 0;costs 100 - road * 9",
        "spoils 2;takes person / 3;bars if person % 2 = day % 2 and fog = 0",
        "spoils 0 if theirs = land;takes 0 if person > 2;costs 1",
    };
    private static final Due DUE = new Due("RowsTest");
    private final LitStrangers x = new LitStrangers();
    private final PlainCoast y = new PlainCoast();
    private final Random draws;
    private final long seed;

    private RowsTest(long seed) {
        this.seed = seed;
        draws = new Random(seed);
    }

    public static void main(String[] args) {
        int runs = args.length > 0 ? Integer.parseInt(args[0]) : 300;
        for (int i = 0; i < runs; i++) {
            int people = i % 60 == 59 ? 9 : i % 20 == 19 ? 7 : 3 + i % 4;
            RowsTest test = new RowsTest(i);
            test.make(people);
            test.ask(people);
        }
        DUE.close();
    }

    private void due(String what, long want, long got) {
        DUE.due("coast " + seed + ": " + what, want, got);
    }

    private void make(int people) {
        int far = 1 + draws.nextInt(5);
        for (int p = 0; p < people; p++) {
            int road = draws.nextInt(far);
            int land = draws.nextInt(4);
            due("person", y.person(road, land), x.person(road, land));
            int heard = draws.nextInt(4) == 0 ? draws.nextInt(3) : people > 8 ? 1 : 0;
            due("hear", y.hear(p, heard), x.hear(p, heard));
        }
        int day = draws.nextInt(4) == 0 ? 95 + draws.nextInt(4) : draws.nextInt(5) == 0 ? 996 : draws.nextInt(3);
        due("terms", y.terms(0, day), x.terms(0, day));
        int mood = draws.nextInt(10);
        due("terms", y.terms(2, mood), x.terms(2, mood));
        int fogs = draws.nextInt(4);
        for (int i = 0; i < fogs; i++) {
            int on = day + draws.nextInt(5);
            due("fog", y.fog(on, 1), x.fog(on, 1));
        }
        int talks = draws.nextInt(2 * people);
        for (int i = 0; i < talks; i++) {
            int one = draws.nextInt(people);
            int other = draws.nextInt(people);
            due("talk", y.talk(one, other, 1), x.talk(one, other, 1));
        }
        if (draws.nextInt(5) > 0) {
            rule(LAWS[draws.nextInt(LAWS.length)]);
        }
        int deeds = draws.nextInt(5);
        for (int i = 0; i < deeds; i++) {
            int p = draws.nextInt(people);
            due("send", y.send(p), x.send(p));
            int crew = y.crews(0);
            if (i % 2 == 1) {
                due("dark", y.dark(), x.dark());
            } else if (crew > 0 && i == 4) {
                due("light", y.light(crew), x.light(crew));
            }
        }
    }

    private void rule(String law) {
        Due.put(x, law);
        for (char c : law.toCharArray()) {
            y.tape.add((int) c);
        }
        due("law", y.law(), x.law());
        due("force", y.force(0), x.force(0));
    }

    private void ask(int people) {
        int last = y.last(-1);
        due("last", last, x.last(-1));
        for (int i = 0; i <= last; i++) {
            due("last(" + i + ")", y.last(i), x.last(i));
        }
        for (int n = 0; n <= Math.min(10, last + 1); n++) {
            due("ways(" + n + ")", y.ways(n), x.ways(n));
            for (int i = -1; i <= n; i++) {
                due("cheap(" + n + ", " + i + ")", y.cheap(n, i), x.cheap(n, i));
            }
        }
        for (int p = 0; p <= people; p++) {
            due("late(" + p + ")", y.late(p), x.late(p));
            due("harm(" + p + ")", y.harm(p), x.harm(p));
        }
        int swaps = y.swaps(-1);
        for (int i = -1; i <= swaps; i++) {
            due("swaps(" + i + ")", y.swaps(i), x.swaps(i));
        }
        int crews = y.crews(-1);
        for (int i = -2; i <= crews; i++) {
            due("crews(" + i + ")", y.crews(i), x.crews(i));
        }
        for (int land = 0; land < 4; land++) {
            due("share(" + land + ")", y.share(land), x.share(land));
        }
        for (int n = 0; n <= people; n++) {
            due("who(" + n + ")", y.who(n), x.who(n));
        }
        for (int what = 0; what < 3 && people < 7; what++) {
            due("hush", y.hush(last + 1, what), x.hush(last + 1, what));
            due("hush", y.hush(Math.max(1, last), what), x.hush(Math.max(1, last), what));
        }
        int s = draws.nextInt(1000001);
        due("winter", y.winter(s, 20), x.winter(s, 20));
        for (int k = 0; k <= 20; k++) {
            due("drawn(" + k + ")", y.drawn(k), x.drawn(k));
        }
    }
}
