import java.util.ArrayList;
import java.util.Arrays;
import java.util.List;

/**
 * The document's words put down as plainly as can be, and as slow: rows are gone through one by one, texts become
 * trees. The fuzz test holds LitStrangers against it.
 */
final class PlainCoast {
    static final class Fault extends RuntimeException {
        final int at;

        Fault(int at) {
            super(null, null, false, false);
            this.at = at;
        }
    }

    static final class Broken extends RuntimeException {
        Broken() {
            super(null, null, false, false);
        }
    }

    static final class Refused extends RuntimeException {
        final int by;

        Refused(int by) {
            super(null, null, false, false);
            this.by = by;
        }
    }

    static final class Person implements Cloneable {
        int road;
        int land;
        int heard;
        int where;
        int till;

        Person copy() {
            Person p = new Person();
            p.road = road;
            p.land = land;
            p.heard = heard;
            p.where = where;
            p.till = till;
            return p;
        }

        int worth() {
            return where == 3 ? 0 : 2 - heard;
        }
    }

    static final class Node {
        String op;
        long number;
        Node left;
        Node right;
    }

    static final class Clause {
        String verb;
        Node sum;
        Node test;
        int times = 1;
    }

    interface Words {
        long value(String word, int p);
    }

    static final class World {
        List<Person> people = new ArrayList<>();
        boolean[][] talk = new boolean[10][10];
        boolean[] fog = new boolean[100];
        int[] terms = {0, 3, 0};
        int lit;
        int dark;
        int spent;
        List<List<Clause>> laws = new ArrayList<>();
        int force = -1;

        World copy() {
            World w = new World();
            for (Person p : people) {
                w.people.add(p.copy());
            }
            for (int i = 0; i < 10; i++) {
                w.talk[i] = talk[i].clone();
            }
            w.fog = fog.clone();
            w.terms = terms.clone();
            w.lit = lit;
            w.dark = dark;
            w.spent = spent;
            w.laws = new ArrayList<>(laws);
            w.force = force;
            return w;
        }
    }

    static final class Done {
        int kind;
        World before;
    }

    World w = new World();
    List<Done> done = new ArrayList<>();
    World[] images = new World[2];
    List<Integer> tape = new ArrayList<>();
    int fault = -1;
    int salt;
    int stopped = -1;
    int status;
    int[] refused = new int[7];
    List<Integer> winter = new ArrayList<>();

    // ---- calls

    private int refuse(int by) {
        status = by;
        refused[-by]++;
        return by;
    }

    private int fine(int answer) {
        status = 0;
        return answer;
    }

    private boolean has(int p) {
        return p >= 0 && p < w.people.size();
    }

    public int person(int road, int land) {
        if (road < 0 || road > 30 || land < 0 || land > 3) {
            return refuse(-1);
        }
        if (w.people.size() == 10) {
            return refuse(-5);
        }
        Person p = new Person();
        p.road = road;
        p.land = land;
        w.people.add(p);
        done.clear();
        return fine(w.people.size() - 1);
    }

    public int hear(int person, int value) {
        if (value < 0 || value > 2) {
            return refuse(-1);
        }
        if (!has(person)) {
            return refuse(-2);
        }
        Person p = w.people.get(person);
        if (p.where == 3) {
            return refuse(-3);
        }
        int was = p.heard;
        p.heard = value;
        done.clear();
        return fine(was);
    }

    public int of(int person, int what) {
        if (!has(person)) {
            return -1;
        }
        Person p = w.people.get(person);
        if (what == 0) {
            return p.road;
        } else if (what == 1) {
            return p.land;
        } else if (what == 2) {
            return p.heard;
        } else if (what == 3) {
            return p.where;
        } else if (what == 4) {
            return p.where == 1 ? p.till : -1;
        } else if (what == 5) {
            return p.worth();
        }
        return -1;
    }

    public int talk(int one, int other, int is) {
        if (one == other || (is != 0 && is != 1)) {
            return refuse(-1);
        }
        if (!has(one) || !has(other)) {
            return refuse(-2);
        }
        boolean was = w.talk[one][other];
        w.talk[one][other] = is == 1;
        w.talk[other][one] = is == 1;
        return fine(was ? 1 : 0);
    }

    public int fog(int day, int is) {
        if (day < 0 || day > 99 || (is != 0 && is != 1)) {
            return refuse(-1);
        }
        boolean was = w.fog[day];
        w.fog[day] = is == 1;
        return fine(was ? 1 : 0);
    }

    public int terms(int what, int value) {
        int[] most = {999, 10, 9};
        if (what < 0 || what > 2 || value < 0 || value > most[what]) {
            return refuse(-1);
        }
        if (what == 0) {
            for (Person p : w.people) {
                if (p.where == 1) {
                    return refuse(-3);
                }
            }
        }
        int was = w.terms[what];
        w.terms[what] = value;
        done.clear();
        return fine(was);
    }

    public int feed(int a, int b, int c, int d, int e) {
        if (tape.size() > 380) {
            return -1;
        }
        for (int n : new int[] {a, b, c, d, e}) {
            tape.add(n >>> 24);
            tape.add(n >>> 16 & 255);
            tape.add(n >>> 8 & 255);
            tape.add(n & 255);
        }
        return tape.size();
    }

    public int end(int n) {
        if (n < 0 || n > tape.size()) {
            return -1;
        }
        while (tape.size() > n) {
            tape.remove(tape.size() - 1);
        }
        return n;
    }

    public int row() {
        if (tape.isEmpty()) {
            return refuse(-6);
        }
        int came = 0;
        salt = 0;
        for (int i = 0; i < tape.size(); i += 3) {
            if (i + 3 > tape.size() || w.people.size() == 10 || tape.get(i) > 30 || tape.get(i + 1) > 3
                    || tape.get(i + 2) > 2) {
                salt++;
                continue;
            }
            Person p = new Person();
            p.road = tape.get(i);
            p.land = tape.get(i + 1);
            p.heard = tape.get(i + 2);
            w.people.add(p);
            came++;
        }
        tape.clear();
        done.clear();
        return fine(came);
    }

    public int salt() {
        return salt;
    }

    public int law() {
        if (w.laws.size() == 6) {
            tape.clear();
            return refuse(-5);
        }
        List<Clause> text = parse(false);
        if (text == null) {
            return refuse(-6);
        }
        w.laws.add(text);
        return fine(w.laws.size() - 1);
    }

    public int orders() {
        stopped = -1;
        List<Clause> text = parse(true);
        if (text == null) {
            return refuse(-6);
        }
        World was = w.copy();
        List<Done> doneWas = new ArrayList<>(done);
        int run = 0;
        for (int c = 0; c < text.size(); c++) {
            Clause clause = text.get(c);
            for (int t = 0; t < clause.times; t++) {
                final int sofar = run;
                Words words = (word, p) -> orderWord(word, p, sofar);
                if (clause.test != null && !isSo(clause.test, words)) {
                    continue;
                }
                try {
                    long sum = clause.sum == null ? 0 : value(clause.sum, words);
                    if (clause.verb.equals("send")) {
                        doSend((int) sum);
                    } else if (clause.verb.equals("light")) {
                        doLight((int) sum);
                    } else {
                        doDark();
                    }
                    run++;
                } catch (Broken | Refused e) {
                    w = was;
                    done = doneWas;
                    stopped = c;
                    return refuse(-3);
                }
            }
        }
        return fine(run);
    }

    private long orderWord(String word, int p, int run) {
        switch (word) {
            case "day":
                return w.terms[0];
            case "lit":
                return w.lit;
            case "nights":
                return w.dark;
            case "done":
                return run;
            case "spent":
                return w.spent;
            case "worth":
                return has(p) ? w.people.get(p).worth() : -1;
            case "here":
                return has(p) ? (w.people.get(p).where == 2 ? 1 : 0) : -1;
            default:
                throw new IllegalStateException(word);
        }
    }

    public int fault() {
        return fault;
    }

    public int stopped() {
        return stopped;
    }

    public int force(int law) {
        if (law != -1 && (law < 0 || law >= w.laws.size())) {
            return refuse(-2);
        }
        int was = w.force;
        w.force = law;
        return fine(was);
    }

    public int asks(int person, int other, int what) {
        if (!has(person)) {
            return -1;
        }
        Person p = w.people.get(person);
        int day = w.terms[0];
        switch (what) {
            case 0:
                return takes(person);
            case 1:
                return costs(person);
            case 2:
                return ask("lodges", person, p.heard, day, isFog(day), 1, 99);
            case 3:
                return barred(person, p.heard, day, isFog(day)) ? 1 : 0;
            case 4:
                return has(other) && other != person ? spoils(person, other) : -1;
            default:
                return -1;
        }
    }

    public int send(int person) {
        try {
            return fine(doSend(person));
        } catch (Refused e) {
            return refuse(e.by);
        }
    }

    public int light(int crew) {
        try {
            return fine(doLight(crew));
        } catch (Refused e) {
            return refuse(e.by);
        }
    }

    public int dark() {
        try {
            return fine(doDark());
        } catch (Refused e) {
            return refuse(e.by);
        }
    }

    public int undo() {
        if (done.isEmpty()) {
            return refuse(-3);
        }
        Done d = done.remove(done.size() - 1);
        for (int i = 0; i < w.people.size(); i++) {
            w.people.set(i, d.before.people.get(i).copy());
        }
        w.terms[0] = d.before.terms[0];
        w.lit = d.before.lit;
        w.dark = d.before.dark;
        w.spent = d.before.spent;
        return fine(d.kind);
    }

    private void remember(int kind) {
        Done d = new Done();
        d.kind = kind;
        d.before = w.copy();
        done.add(d);
        if (done.size() > 16) {
            done.remove(0);
        }
    }

    private int doSend(int person) {
        if (!has(person)) {
            throw new Refused(-2);
        }
        Person p = w.people.get(person);
        if (p.where != 0) {
            throw new Refused(-3);
        }
        remember(0);
        int cost = costs(person);
        int takes = takes(person);
        w.spent += cost;
        p.where = takes == 0 ? 2 : 1;
        p.till = w.terms[0] + takes;
        return cost;
    }

    private int doLight(int crew) {
        if (crew < 1 || crew > 1023) {
            throw new Refused(-1);
        }
        for (int i = w.people.size(); i < 10; i++) {
            if ((crew & 1 << i) != 0) {
                throw new Refused(-2);
            }
        }
        int day = w.terms[0];
        int worth = 0;
        for (int i = 0; i < w.people.size(); i++) {
            if ((crew & 1 << i) != 0) {
                Person p = w.people.get(i);
                if (p.where != 2 || p.worth() == 0 || barred(i, p.heard, day, isFog(day))) {
                    throw new Refused(-3);
                }
                worth += p.worth();
            }
        }
        if (worth < (isFog(day) ? 4 : 2) || day == 999) {
            throw new Refused(-3);
        }
        remember(1);
        for (int i = 0; i < w.people.size(); i++) {
            if ((crew & 1 << i) != 0) {
                w.people.get(i).where = 3;
            }
        }
        for (int i = 0; i < w.people.size(); i++) {
            if ((crew & 1 << i) != 0) {
                for (int j = 0; j < w.people.size(); j++) {
                    Person q = w.people.get(j);
                    if (w.talk[i][j] && q.where != 3) {
                        q.heard = Math.min(2, q.heard + spoils(i, j));
                    }
                }
            }
        }
        w.lit++;
        night();
        return worth;
    }

    private int doDark() {
        if (w.terms[0] == 999) {
            throw new Refused(-3);
        }
        remember(2);
        w.dark++;
        night();
        return w.dark;
    }

    private void night() {
        int day = w.terms[0];
        for (int i = 0; i < w.people.size(); i++) {
            Person p = w.people.get(i);
            if (p.where == 2) {
                w.spent += ask("lodges", i, p.heard, day, isFog(day), 1, 99);
            }
        }
        w.terms[0]++;
        for (Person p : w.people) {
            if (p.where == 1 && p.till == w.terms[0]) {
                p.where = 2;
            }
        }
    }

    // ---- laws

    private boolean isFog(int day) {
        return day <= 99 && w.fog[day];
    }

    private int takes(int p) {
        int day = w.terms[0];
        return ask("takes", p, w.people.get(p).heard, day, isFog(day), w.people.get(p).road, 60);
    }

    private int costs(int p) {
        int day = w.terms[0];
        return ask("costs", p, w.people.get(p).heard, day, isFog(day), w.people.get(p).road, 999);
    }

    private int spoils(int p, int other) {
        return tell("spoils", lawWords(p, other, -1, -1, -1), 1, 2);
    }

    private boolean barred(int p, int heard, int day, boolean fog) {
        return ask("bars", p, heard, day, fog, 0, 1) == 1;
    }

    private int ask(String verb, int p, int heard, int day, boolean fog, int without, int most) {
        return tell(verb, lawWords(p, -1, heard, day, fog ? 1 : 0), without, most);
    }

    private int tell(String verb, Words words, int without, int most) {
        if (w.force < 0) {
            return without;
        }
        int told = without;
        for (Clause c : w.laws.get(w.force)) {
            if (!c.verb.equals(verb) || c.test != null && !isSo(c.test, words)) {
                continue;
            }
            try {
                long sum = c.sum == null ? 1 : value(c.sum, words);
                told = (int) (sum < 0 ? 0 : sum > most ? most : sum);
            } catch (Broken e) {
                continue;
            }
        }
        return told;
    }

    private Words lawWords(int p, int other, int heard, int day, int fog) {
        return (word, none) -> {
            switch (word) {
                case "person":
                    return p;
                case "road":
                    return w.people.get(p).road;
                case "land":
                    return w.people.get(p).land;
                case "heard":
                    return heard;
                case "other":
                    return other;
                case "theirs":
                    return other < 0 ? -1 : w.people.get(other).land;
                case "far":
                    return other < 0 ? -1 : w.people.get(other).road;
                case "day":
                    return day;
                case "fog":
                    return fog;
                case "mood":
                    return w.terms[2];
                default:
                    throw new IllegalStateException(word);
            }
        };
    }

    private static boolean isSo(Node test, Words words) {
        try {
            return test(test, words);
        } catch (Broken e) {
            return false;
        }
    }

    private static boolean test(Node n, Words words) {
        switch (n.op) {
            case "or":
                return test(n.left, words) || test(n.right, words);
            case "and":
                return test(n.left, words) && test(n.right, words);
            case "not":
                return !test(n.left, words);
            case "<":
                return Long.compare(value(n.left, words), value(n.right, words)) < 0;
            case ">":
                return Long.compare(value(n.left, words), value(n.right, words)) > 0;
            case "=":
                return Long.compare(value(n.left, words), value(n.right, words)) == 0;
            default:
                throw new IllegalStateException(n.op);
        }
    }

    private static long value(Node n, Words words) {
        if (n.op.equals("number")) {
            return n.number;
        }
        if (n.left == null) {
            return words.value(n.op, (int) n.number);
        }
        long a = value(n.left, words);
        long b = value(n.right, words);
        long r;
        switch (n.op) {
            case "+":
                r = a + b;
                break;
            case "-":
                r = a - b;
                break;
            case "*":
                r = a * b;
                break;
            default:
                if (b == 0) {
                    throw new Broken();
                }
                r = n.op.equals("/") ? a / b : a % b;
        }
        if (r > 1000000000L || r < -1000000000L) {
            throw new Broken();
        }
        return r;
    }

    // ---- reading

    private List<String> tokens;
    private List<Integer> places;
    private int next;
    private int parts;
    private boolean ordering;

    private List<Clause> parse(boolean ofOrders) {
        ordering = ofOrders;
        tokens = new ArrayList<>();
        places = new ArrayList<>();
        int i = 0;
        while (i < tape.size()) {
            char c = (char) (int) tape.get(i);
            if (c == ' ') {
                i++;
                continue;
            }
            int from = i;
            StringBuilder b = new StringBuilder();
            if (c >= 'a' && c <= 'z') {
                while (i < tape.size() && tape.get(i) >= 'a' && tape.get(i) <= 'z') {
                    b.append((char) (int) tape.get(i++));
                }
            } else if (c >= '0' && c <= '9') {
                while (i < tape.size() && tape.get(i) >= '0' && tape.get(i) <= '9') {
                    b.append((char) (int) tape.get(i++));
                }
            } else {
                b.append(c);
                i++;
            }
            tokens.add(b.toString());
            places.add(from);
        }
        tokens.add("");
        places.add(tape.size());
        tape.clear();
        next = 0;
        parts = 0;
        fault = -1;
        try {
            List<Clause> clauses = new ArrayList<>();
            clauses.add(clause());
            while (!peek().isEmpty()) {
                want(";");
                if (clauses.size() == 12) {
                    throw here();
                }
                clauses.add(clause());
            }
            return clauses;
        } catch (Fault f) {
            fault = f.at;
            return null;
        }
    }

    private String peek() {
        return tokens.get(next);
    }

    private Fault here() {
        return new Fault(places.get(next));
    }

    private void want(String token) {
        if (!peek().equals(token)) {
            throw here();
        }
        next++;
    }

    private boolean at(String... any) {
        return Arrays.asList(any).contains(peek());
    }

    private int numeral(int least, int most) {
        String t = peek();
        if (t.isEmpty() || !Character.isDigit(t.charAt(0))) {
            throw here();
        }
        java.math.BigInteger n = new java.math.BigInteger(t);
        if (n.compareTo(java.math.BigInteger.valueOf(least)) < 0 || n.compareTo(java.math.BigInteger.valueOf(most)) > 0) {
            throw here();
        }
        next++;
        return n.intValue();
    }

    private Clause clause() {
        Clause c = new Clause();
        if (!(ordering ? at("send", "light", "dark") : at("takes", "costs", "lodges", "spoils", "bars"))) {
            throw here();
        }
        c.verb = peek();
        next++;
        if (!c.verb.equals("dark") && !c.verb.equals("bars")) {
            c.sum = sum(0);
        }
        if (ordering && at("times")) {
            next++;
            c.times = numeral(1, 20);
        }
        if (at("if")) {
            next++;
            c.test = testOf(0);
        }
        return c;
    }

    private static Node node(String op, Node left, Node right) {
        Node n = new Node();
        n.op = op;
        n.left = left;
        n.right = right;
        return n;
    }

    private Node testOf(int depth) {
        Node n = bothOf(depth);
        while (at("or")) {
            next++;
            n = node("or", n, bothOf(depth));
        }
        return n;
    }

    private Node bothOf(int depth) {
        Node n = plainOf(depth);
        while (at("and")) {
            next++;
            n = node("and", n, plainOf(depth));
        }
        return n;
    }

    private Node plainOf(int depth) {
        if (at("not")) {
            next++;
            return node("not", plainOf(depth), null);
        }
        if (at("(")) {
            if (depth == 8) {
                throw here();
            }
            next++;
            Node n = testOf(depth + 1);
            want(")");
            return n;
        }
        Node left = sum(depth);
        if (!at("<", ">", "=")) {
            throw here();
        }
        String op = peek();
        next++;
        return node(op, left, sum(depth));
    }

    private Node sum(int depth) {
        Node n = term(depth);
        while (at("+", "-")) {
            String op = peek();
            next++;
            n = node(op, n, term(depth));
        }
        return n;
    }

    private Node term(int depth) {
        Node n = part(depth);
        while (at("*", "/", "%")) {
            String op = peek();
            next++;
            n = node(op, n, part(depth));
        }
        return n;
    }

    private Node part(int depth) {
        if (at("[")) {
            if (depth == 8) {
                throw here();
            }
            next++;
            Node n = sum(depth + 1);
            want("]");
            return n;
        }
        boolean word = ordering ? at("day", "lit", "nights", "done", "spent", "worth", "here")
                : at("person", "road", "land", "heard", "other", "theirs", "far", "day", "fog", "mood");
        if (parts == 50) {
            throw here();
        }
        parts++;
        if (!word) {
            Node n = node("number", null, null);
            n.number = numeral(0, 1000);
            return n;
        }
        Node n = node(peek(), null, null);
        next++;
        if (n.op.equals("worth") || n.op.equals("here")) {
            n.number = numeral(0, 9);
        }
        return n;
    }

    // ---- on paper

    /** How it stands on paper: who is out of it, and what all have heard. */
    static final class Sheet {
        int[] come = new int[10];
        int[] heard = new int[10];
        boolean[] out = new boolean[10];
        boolean[][] talk = new boolean[10][10];

        Sheet copy() {
            Sheet s = new Sheet();
            s.come = come;
            s.talk = talk;
            s.heard = heard.clone();
            s.out = out.clone();
            return s;
        }
    }

    private Sheet sheet() {
        Sheet s = new Sheet();
        for (int i = 0; i < w.people.size(); i++) {
            Person p = w.people.get(i);
            s.heard[i] = p.heard;
            s.out[i] = p.where == 3;
            s.come[i] = p.where == 0 ? takes(i) : p.where == 1 ? p.till - w.terms[0] : 0;
            s.talk[i] = w.talk[i].clone();
        }
        return s;
    }

    private boolean canLight(Sheet s, int crew, int night, boolean fog) {
        int worth = 0;
        for (int i = 0; i < 10; i++) {
            if ((crew & 1 << i) == 0) {
                continue;
            }
            if (s.out[i] || s.come[i] > night || s.heard[i] == 2 || barred(i, s.heard[i], w.terms[0] + night, fog)) {
                return false;
            }
            worth += 2 - s.heard[i];
        }
        return crew != 0 && worth >= (fog ? 4 : 2);
    }

    private List<Integer> crewsOf(Sheet s, int night, boolean fog) {
        int can = 0;
        for (int i = 0; i < w.people.size(); i++) {
            if (!s.out[i] && s.come[i] <= night) {
                can |= 1 << i;
            }
        }
        List<Integer> all = new ArrayList<>();
        for (int crew = 1; crew < 1 << w.people.size(); crew++) {
            if ((crew & ~can) != 0 || Integer.bitCount(crew) > 4 || !canLight(s, crew, night, fog)) {
                continue;
            }
            boolean small = true;
            for (int i = 0; i < 10; i++) {
                if ((crew & 1 << i) != 0 && canLight(s, crew & ~(1 << i), night, fog)) {
                    small = false;
                }
            }
            if (small) {
                all.add(crew);
            }
        }
        return all;
    }

    private Sheet lit(Sheet s, int crew) {
        Sheet t = s.copy();
        for (int i = 0; i < 10; i++) {
            if ((crew & 1 << i) != 0) {
                t.out[i] = true;
            }
        }
        for (int i = 0; i < 10; i++) {
            if ((crew & 1 << i) != 0) {
                for (int j = 0; j < w.people.size(); j++) {
                    if (t.talk[i][j] && !t.out[j]) {
                        t.heard[j] = Math.min(2, t.heard[j] + spoils(i, j));
                    }
                }
            }
        }
        return t;
    }

    interface Row {
        void take(List<Integer> crews);
    }

    private void rows(Sheet s, List<Integer> sofar, Row all) {
        all.take(sofar);
        for (int crew : crewsOf(s, sofar.size(), isFog(w.terms[0] + sofar.size()))) {
            sofar.add(crew);
            rows(lit(s, crew), sofar, all);
            sofar.remove(sofar.size() - 1);
        }
    }

    private List<Integer> longest(Sheet s) {
        List<Integer> best = new ArrayList<>();
        rows(s, new ArrayList<>(), row -> {
            if (row.size() > best.size()) {
                best.clear();
                best.addAll(row);
            }
        });
        return best;
    }

    private static int nth(List<Integer> row, int i) {
        return i == -1 ? row.size() : i >= 0 && i < row.size() ? row.get(i) : -1;
    }

    public int last(int i) {
        return nth(longest(sheet()), i);
    }

    public int cheap(int n, int i) {
        if (n < 1 || n > 10) {
            return -1;
        }
        int[] least = {-1};
        List<Integer> best = new ArrayList<>();
        int[] costs = new int[10];
        for (int p = 0; p < w.people.size(); p++) {
            costs[p] = w.people.get(p).where == 0 ? costs(p) : 0;
        }
        rows(sheet(), new ArrayList<>(), row -> {
            if (row.size() != n) {
                return;
            }
            int sum = 0;
            for (int crew : row) {
                for (int p = 0; p < 10; p++) {
                    sum += (crew & 1 << p) != 0 ? costs[p] : 0;
                }
            }
            if (least[0] == -1 || sum < least[0]) {
                least[0] = sum;
                best.clear();
                best.addAll(row);
            }
        });
        return i == -1 ? least[0] : nth(best, i < -1 ? 99 : i);
    }

    public long ways(int n) {
        if (n < 0 || n > 10) {
            return -1;
        }
        long[] many = {0};
        rows(sheet(), new ArrayList<>(), row -> many[0] += row.size() == n ? 1 : 0);
        return many[0];
    }

    public int late(int person) {
        if (!has(person)) {
            return -1;
        }
        int nights = longest(sheet()).size();
        int[] late = {-1};
        rows(sheet(), new ArrayList<>(), row -> {
            for (int k = 0; row.size() == nights && k < nights; k++) {
                if ((row.get(k) & 1 << person) != 0) {
                    late[0] = Math.max(late[0], k);
                }
            }
        });
        return late[0];
    }

    private boolean landsMeet(int one, int other) {
        for (int i = 0; i < w.people.size(); i++) {
            for (int j = 0; j < w.people.size(); j++) {
                if ((one & 1 << i) != 0 && (other & 1 << j) != 0 && w.people.get(i).land == w.people.get(j).land) {
                    return true;
                }
            }
        }
        return false;
    }

    public int swaps(int i) {
        List<Integer> best = new ArrayList<>();
        rows(sheet(), new ArrayList<>(), row -> {
            if (row.size() <= best.size()) {
                return;
            }
            for (int k = 1; k < row.size(); k++) {
                if (landsMeet(row.get(k - 1), row.get(k))) {
                    return;
                }
            }
            best.clear();
            best.addAll(row);
        });
        return nth(best, i);
    }

    public int crews(int i) {
        Sheet s = sheet();
        for (int p = 0; p < w.people.size(); p++) {
            if (w.people.get(p).where != 2) {
                s.out[p] = true;
            }
        }
        return nth(crewsOf(s, 0, isFog(w.terms[0])), i);
    }

    public int share(int land) {
        if (land < 0 || land > 3) {
            return -1;
        }
        Sheet s = sheet();
        int all = longest(s).size();
        for (int p = 0; p < w.people.size(); p++) {
            if (w.people.get(p).land == land) {
                s.out[p] = true;
            }
        }
        return all - longest(s).size();
    }

    public int harm(int person) {
        if (!has(person) || w.people.get(person).where == 3) {
            return -1;
        }
        int was = 0;
        int is = 0;
        for (int p = 0; p < w.people.size(); p++) {
            if (p != person) {
                Person q = w.people.get(p).copy();
                was += q.worth();
                if (w.talk[person][p] && q.where != 3) {
                    q.heard = Math.min(2, q.heard + spoils(person, p));
                }
                is += q.worth();
            }
        }
        return was - is;
    }

    public int hush(int n, int what) {
        if (n < 1 || n > 10 || what < 0 || what > 2) {
            return -1;
        }
        for (int few = 0; few <= 2; few++) {
            int lowest = -1;
            int many = 0;
            for (int bits = 0; bits < 1 << w.people.size(); bits++) {
                if (Integer.bitCount(bits) != few) {
                    continue;
                }
                Sheet s = sheet();
                for (int i = 0; i < 10; i++) {
                    for (int j = 0; j < 10; j++) {
                        if ((bits & 1 << i) != 0) {
                            s.talk[i][j] = false;
                            s.talk[j][i] = false;
                        }
                    }
                }
                if (longest(s).size() >= n) {
                    lowest = lowest == -1 ? bits : lowest;
                    many++;
                }
            }
            if (many > 0) {
                return what == 0 ? few : what == 1 ? lowest : many;
            }
        }
        return -1;
    }

    public int who(int n) {
        if (n < 0 || n > 10) {
            return -1;
        }
        int bits = 0;
        for (int p = 0; p < w.people.size(); p++) {
            Sheet s = sheet();
            if (!s.out[p]) {
                s.out[p] = true;
                if (longest(s).size() == n) {
                    bits |= 1 << p;
                }
            }
        }
        return bits;
    }

    public int winter(int seed, int n) {
        if (seed < 0 || seed > 1000000 || n < 1 || n > 60) {
            return refuse(-1);
        }
        winter.clear();
        Sheet s = sheet();
        long draw = seed;
        int lit = 0;
        for (int k = 0; k < n; k++) {
            draw = (draw * 1103 + 12345) % 1000003;
            List<Integer> all = crewsOf(s, k, draw % 10 < w.terms[1]);
            if (all.isEmpty()) {
                winter.add(0);
            } else {
                winter.add(all.get(0));
                s = lit(s, all.get(0));
                lit++;
            }
        }
        return fine(lit);
    }

    public int drawn(int k) {
        return k >= 0 && k < winter.size() ? winter.get(k) : -1;
    }

    public int image(int k) {
        if (k != 0 && k != 1) {
            return refuse(-1);
        }
        images[k] = w.copy();
        return fine(0);
    }

    public int back(int k) {
        if (k != 0 && k != 1) {
            return refuse(-1);
        }
        if (images[k] == null) {
            return refuse(-2);
        }
        w = images[k].copy();
        done.clear();
        return fine(0);
    }

    public int count(int what) {
        int talks = 0;
        for (int i = 0; i < 10; i++) {
            for (int j = 0; j < i; j++) {
                talks += w.talk[i][j] ? 1 : 0;
            }
        }
        int[] all = {w.people.size(), talks, w.lit, w.dark, w.spent, w.laws.size(), done.size(), tape.size(),
            refused[1], refused[2], refused[3], refused[5], refused[6], w.force, w.terms[0], w.terms[1], w.terms[2]};
        return what >= 0 && what < all.length ? all[what] : -1;
    }

    public int status() {
        return status;
    }
}
