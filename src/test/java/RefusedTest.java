import java.util.ArrayList;
import java.util.List;

/**
 * A call that is refused changes nothing but what the document says: two coasts live through the same, one of them
 * hears the refused call besides, and all that can be asked of both is held against one another.
 */
public final class RefusedTest {
    private static final Due D = new Due("RefusedTest");
    private static final int NONE = -1;
    private static final int VIEWS = 6;

    /** How a coast came to be. */
    interface Life {
        LitStrangers live();
    }

    /** A call. */
    interface Call {
        int on(LitStrangers x);
    }

    public static void main(String[] args) {
        inTheMidst();
        onTheLastDay();
        whenFull();
        texts();
        notRefusedButNone();
        D.close();
    }

    /** Somebody in every place, talks, fog, laws, images, something to undo, a winter, a tape. */
    private static LitStrangers midst() {
        LitStrangers x = Due.coast(0, 4, 0, 6, 0);
        x.talk(0, 1, 1);
        x.talk(3, 4, 1);
        x.fog(2, 1);
        x.fog(99, 1);
        x.hear(4, 1);
        x.terms(1, 4);
        x.terms(2, 5);
        Due.law(x, "takes 9;lodges 3");
        Due.rule(x, "lodges 2;spoils 2 if theirs = 1");
        x.image(0);
        x.person(3, 3);
        Due.put(x, new byte[] {1, 1, 1, 99, 0, 0, 7});
        x.row();
        x.send(0);
        x.send(1);
        x.send(2);
        x.light(1);
        x.dark();
        x.winter(17, 12);
        Due.law(x, "takes ?");
        Due.orders(x, "dark;send 9");
        Due.put(x, "takes 7");
        return x;
    }

    private static LitStrangers lastDay() {
        LitStrangers x = Due.here(3);
        x.talk(0, 1, 1);
        x.terms(0, 997);
        x.dark();
        x.image(1);
        x.dark();
        Due.put(x, "costs 4");
        return x;
    }

    private static LitStrangers full() {
        LitStrangers x = Due.here(10);
        for (int i = 0; i < 6; i++) {
            Due.law(x, "takes " + i + ";lodges " + i);
        }
        x.force(3);
        x.talk(8, 9, 1);
        x.dark();
        Due.put(x, Due.many("bars", 100));
        return x;
    }

    private static void inTheMidst() {
        Life life = RefusedTest::midst;
        D.promise(2, "REFUSED");
        refused(life, "person(31, 0)", -1, x -> x.person(31, 0));
        refused(life, "person(0, -1)", -1, x -> x.person(0, -1));
        D.promise(3, "REFUSED");
        refused(life, "hear(4, 3)", -1, x -> x.hear(4, 3));
        refused(life, "hear(4, -1)", -1, x -> x.hear(4, -1));
        refused(life, "hear(7, 0)", -2, x -> x.hear(7, 0));
        refused(life, "hear(0, 1)", -3, x -> x.hear(0, 1));
        D.promise(5, "REFUSED");
        refused(life, "talk(1, 1, 1)", -1, x -> x.talk(1, 1, 1));
        refused(life, "talk(0, 1, 2)", -1, x -> x.talk(0, 1, 2));
        refused(life, "talk(0, 9, 1)", -2, x -> x.talk(0, 9, 1));
        refused(life, "talk(-1, 0, 1)", -2, x -> x.talk(-1, 0, 1));
        D.promise(6, "REFUSED");
        refused(life, "fog(100, 1)", -1, x -> x.fog(100, 1));
        refused(life, "fog(-1, 1)", -1, x -> x.fog(-1, 1));
        refused(life, "fog(5, 2)", -1, x -> x.fog(5, 2));
        D.promise(7, "REFUSED");
        refused(life, "terms(0, 5)", -3, x -> x.terms(0, 5));
        refused(life, "terms(0, 1000)", -1, x -> x.terms(0, 1000));
        refused(life, "terms(1, 11)", -1, x -> x.terms(1, 11));
        refused(life, "terms(2, -1)", -1, x -> x.terms(2, -1));
        refused(life, "terms(3, 0)", -1, x -> x.terms(3, 0));
        D.promise(10, "REFUSED");
        refused(() -> emptied(midst()), "row()", -6, LitStrangers::row);
        D.promise(16, "REFUSED");
        refused(life, "force(2)", -2, x -> x.force(2));
        refused(life, "force(-2)", -2, x -> x.force(-2));
        D.promise(18, "REFUSED");
        refused(life, "send(7)", -2, x -> x.send(7));
        refused(life, "send(0)", -3, x -> x.send(0));
        refused(life, "send(1)", -3, x -> x.send(1));
        refused(life, "send(2)", -3, x -> x.send(2));
        D.promise(19, "REFUSED");
        refused(life, "light(0)", -1, x -> x.light(0));
        refused(life, "light(1024)", -1, x -> x.light(1024));
        refused(life, "light(132)", -2, x -> x.light(132));
        refused(life, "light(4) in fog", -3, x -> x.light(4));
        refused(life, "light(12), one at home", -3, x -> x.light(12));
        D.promise(21, "REFUSED");
        refused(() -> deedless(midst()), "undo()", -3, LitStrangers::undo);
        D.promise(32, "REFUSED");
        refused(life, "winter(-1, 5)", -1, x -> x.winter(-1, 5));
        refused(life, "winter(5, 61)", -1, x -> x.winter(5, 61));
        D.promise(34, "REFUSED");
        refused(life, "image(2)", -1, x -> x.image(2));
        refused(life, "image(-1)", -1, x -> x.image(-1));
        D.promise(35, "REFUSED");
        refused(life, "back(2)", -1, x -> x.back(2));
        refused(life, "back(-1)", -1, x -> x.back(-1));
        refused(life, "back(1)", -2, x -> x.back(1));
    }

    private static LitStrangers emptied(LitStrangers x) {
        x.end(0);
        return x;
    }

    private static LitStrangers deedless(LitStrangers x) {
        x.terms(2, 6);
        return x;
    }

    private static void onTheLastDay() {
        Life life = RefusedTest::lastDay;
        D.promise(19, "REFUSED on DAY 999");
        refused(life, "light(1)", -3, x -> x.light(1));
        refused(life, "light(8)", -2, x -> x.light(8));
        D.promise(20, "REFUSED on DAY 999");
        refused(life, "dark()", -3, LitStrangers::dark);
    }

    private static void whenFull() {
        D.promise(2, "REFUSED, no room");
        refused(RefusedTest::full, "person(0, 0)", -5, x -> x.person(0, 0));
        D.promise(12, "REFUSED, no room: the TAPE is empty then, too");
        textRefused(RefusedTest::full, "law()", -5, LitStrangers::law, NONE, NONE);
    }

    private static void texts() {
        D.promise(12, "REFUSED: the TAPE is empty then, FAULT is told");
        textRefused(() -> fed("takes 7;bars ?"), "law()", -6, LitStrangers::law, 13, 1);
        textRefused(() -> fed("   "), "law()", -6, LitStrangers::law, 3, 1);
        D.promise(13, "REFUSED: the TAPE is empty then, FAULT, where they stopped is told");
        textRefused(() -> fed("dark;send 4;?"), "orders()", -6, LitStrangers::orders, 12, NONE);
        textRefused(() -> fed(""), "orders()", -6, LitStrangers::orders, 0, NONE);
        textRefused(() -> fed("dark times 20;send 3;light 16"), "orders()", -3, LitStrangers::orders, NONE, 2);
        textRefused(() -> fed("dark;light 4;dark;send 1/0"), "orders()", -3, LitStrangers::orders, NONE, 3);
        textRefused(() -> fed("dark;send 4;send 4"), "orders()", -3, LitStrangers::orders, NONE, 2);
        textRefused(() -> fed("send 7"), "orders()", -3, LitStrangers::orders, NONE, 0);
    }

    private static LitStrangers fed(String text) {
        LitStrangers x = midst();
        Due.put(x, text);
        return x;
    }

    /** Calls that answer NONE, or only ask, are not even refused. */
    private static void notRefusedButNone() {
        Life life = RefusedTest::midst;
        D.promise(4, "NONE");
        unrefused(life, "of(9, 0)", x -> x.of(9, 0));
        D.promise(8, "NONE");
        unrefused(RefusedTest::full, "feed", x -> x.feed(1, 2, 3, 4, 5));
        D.promise(9, "NONE");
        unrefused(life, "end(8)", x -> x.end(8));
        unrefused(life, "end(-1)", x -> x.end(-1));
        D.promise(17, "NONE");
        unrefused(life, "asks(0, 0, 4)", x -> x.asks(0, 0, 4));
        D.promise(22, "on paper");
        unrefused(life, "last(10)", x -> x.last(10));
        D.promise(23, "on paper");
        unrefused(life, "cheap(10, 0)", x -> x.cheap(10, 0));
        D.promise(24, "NONE");
        unrefused(life, "ways(11)", x -> (int) x.ways(11));
        D.promise(25, "NONE");
        unrefused(life, "late(9)", x -> x.late(9));
        D.promise(26, "on paper");
        unrefused(life, "swaps(10)", x -> x.swaps(10));
        D.promise(27, "NONE");
        unrefused(life, "crews(99)", x -> x.crews(99));
        D.promise(28, "NONE");
        unrefused(life, "share(4)", x -> x.share(4));
        D.promise(29, "NONE");
        unrefused(life, "harm(0)", x -> x.harm(0));
        D.promise(30, "NONE");
        unrefused(life, "hush(10, 0)", x -> x.hush(10, 0));
        D.promise(31, "NONE");
        unrefused(life, "who(11)", x -> x.who(11));
        D.promise(33, "NONE");
        unrefused(life, "drawn(12)", x -> x.drawn(12));
        D.promise(36, "NONE");
        unrefused(life, "count(17)", x -> x.count(17));
    }

    private static void refused(Life life, String name, int by, Call call) {
        LitStrangers x = life.live();
        int[] counts = refusals(x);
        D.due(name, by, call.on(x));
        D.due("status behind " + name, by, x.status());
        int[] after = refusals(x);
        for (int i = 0; i < 5; i++) {
            int more = i == (by == -5 ? 3 : by == -6 ? 4 : -by - 1) ? 1 : 0;
            D.due("count(" + (8 + i) + ") behind " + name, counts[i] + more, after[i]);
        }
        same(life, name, call);
    }

    /** A text that is refused: the tape is empty then, and what it says of fault and stop is due; nothing else. */
    private static void textRefused(Life life, String name, int by, Call call, int fault, int stopped) {
        LitStrangers x = life.live();
        D.due(name, by, call.on(x));
        D.due("status behind " + name, by, x.status());
        D.due("FAULT behind " + name, fault, x.fault());
        D.due("stopped behind " + name, stopped, x.stopped());
        D.due("the TAPE behind " + name, 0, x.count(7));
        for (int view = 1; view < VIEWS; view++) {
            LitStrangers one = life.live();
            call.on(one);
            LitStrangers other = life.live();
            other.end(0);
            hold(name, view, one, other);
        }
    }

    private static void unrefused(Life life, String name, Call call) {
        LitStrangers x = life.live();
        x.row();
        x.row();
        D.due("REFUSED by -6", -6, x.status());
        int[] counts = refusals(x);
        if (!name.equals("feed")) {
            D.due(name, NONE, call.on(x));
        } else {
            D.due("feed", NONE, call.on(life.live()));
        }
        D.due("status behind " + name, -6, x.status());
        int[] after = refusals(x);
        for (int i = 0; i < 5; i++) {
            D.due("count(" + (8 + i) + ") behind " + name, counts[i], after[i]);
        }
        same(life, name, call);
    }

    private static int[] refusals(LitStrangers x) {
        int[] counts = new int[5];
        for (int i = 0; i < 5; i++) {
            counts[i] = x.count(8 + i);
        }
        return counts;
    }

    private static void same(Life life, String name, Call call) {
        for (int view = 0; view < VIEWS; view++) {
            LitStrangers one = life.live();
            call.on(one);
            hold(name, view, one, life.live());
        }
    }

    private static void hold(String name, int view, LitStrangers one, LitStrangers other) {
        List<Integer> got = look(view, one);
        List<Integer> want = look(view, other);
        D.due("answers of view " + view, want.size(), got.size());
        for (int i = 0; i < want.size() && i < got.size(); i++) {
            D.due("answer " + i + " of view " + view + " behind " + name, want.get(i), got.get(i));
        }
    }

    /** What can be seen of a coast, by views, since to look at some of it changes other things. */
    private static List<Integer> look(int view, LitStrangers x) {
        List<Integer> seen = new ArrayList<>();
        switch (view) {
            case 0:
                tape(x, seen);
                break;
            case 1:
                people(x, seen);
                told(x, seen);
                break;
            case 2:
                laws(x, seen);
                break;
            case 3:
                undone(x, seen);
                break;
            case 4:
                seen.add(x.back(0));
                people(x, seen);
                told(x, seen);
                break;
            default:
                seen.add(x.back(1));
                people(x, seen);
                laws(x, seen);
                break;
        }
        return seen;
    }

    private static void tape(LitStrangers x, List<Integer> seen) {
        seen.add(x.count(7));
        seen.add(x.fault());
        seen.add(x.stopped());
        seen.add(x.law());
        seen.add(x.fault());
        seen.add(x.force(x.count(5) - 1));
        seen.add(x.asks(0, 1, 0));
        seen.add(x.asks(0, 1, 1));
    }

    private static void people(LitStrangers x, List<Integer> seen) {
        for (int what = 0; what < 8; what++) {
            seen.add(x.count(what));
        }
        for (int what = 13; what < 17; what++) {
            seen.add(x.count(what));
        }
        for (int p = 0; p < 10; p++) {
            for (int what = 0; what < 6; what++) {
                seen.add(x.of(p, what));
            }
        }
        seen.add(x.salt());
        for (int k = 0; k < 14; k++) {
            seen.add(x.drawn(k));
        }
        seen.add(x.last(NONE));
        seen.add(x.crews(NONE));
    }

    private static void told(LitStrangers x, List<Integer> seen) {
        for (int one = 0; one < 10; one++) {
            for (int other = 0; other < one; other++) {
                seen.add(x.talk(one, other, 0));
            }
        }
        for (int day = 0; day < 100; day++) {
            seen.add(x.fog(day, 0));
        }
    }

    private static void laws(LitStrangers x, List<Integer> seen) {
        for (int law = NONE; law < 7; law++) {
            seen.add(x.force(law));
            for (int what = 0; what < 5; what++) {
                seen.add(x.asks(4, 1, what));
            }
        }
    }

    private static void undone(LitStrangers x, List<Integer> seen) {
        for (int i = 0; i < 17; i++) {
            seen.add(x.undo());
            for (int what = 2; what < 7; what++) {
                seen.add(x.count(what));
            }
            seen.add(x.count(14));
            for (int p = 0; p < 5; p++) {
                seen.add(x.of(p, 2));
                seen.add(x.of(p, 3));
                seen.add(x.of(p, 4));
            }
        }
    }
}
