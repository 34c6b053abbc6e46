import java.util.Arrays;

/** A lighthouse that may be lit only by somebody who has never been there. */
public final class LitStrangers {
    public static final int NONE = -1;

    private static final int BAD_NUMBER = -1;
    private static final int NO_SUCH = -2;
    private static final int AS_IT_STANDS = -3;
    private static final int NO_ROOM = -5;
    private static final int UNREADABLE = -6;

    private static final int PEOPLE = 10;
    private static final int EVERYBODY = (1 << PEOPLE) - 1;
    private static final int LANDS = 4;
    private static final int MOST_ROAD = 30;
    private static final int MOST_HEARD = 2;
    private static final int LAWS = 6;
    private static final int IMAGES = 2;
    private static final int FOG_DAYS = 100;
    private static final int LAST_DAY = 999;
    private static final int TAPE = 400;
    private static final int CLAUSES = 12;
    private static final int WINTER = 60;
    private static final int MOST_SEED = 1_000_000;

    private static final int AT_HOME = 0;
    private static final int ON_ROAD = 1;
    private static final int IS_HERE = 2;
    private static final int HAS_BEEN = 3;

    private static final int DAY = 0;
    private static final int FOGGY = 1;
    private static final int MOOD = 2;
    private static final int TERMS = 3;

    private final Coast now;
    private final Coast before = new Coast();
    private final Coast[] images = new Coast[IMAGES];
    private final Reader reader = new Reader();
    private final Judge judge;
    private final Log log;
    private final Log logBefore = new Log();
    private final Deeds deeds;
    private final Runner runner;
    private final Paper paper;
    private final Search search;
    private final int[] drawnCrews = new int[WINTER];
    private int drawnNights;
    private int saltOfRow;
    private int refusedBy;
    private final int[] refusals = new int[7];

    public LitStrangers() {
        Coast coast = new Coast();
        Judge itsJudge = new Judge(coast);
        Log itsLog = new Log();
        Deeds itsDeeds = new Deeds(coast, itsJudge, itsLog);
        Paper itsPaper = new Paper(coast, itsJudge);
        now = coast;
        judge = itsJudge;
        log = itsLog;
        deeds = itsDeeds;
        runner = new Runner(coast, itsDeeds);
        paper = itsPaper;
        search = new Search(itsPaper);
    }

    public int person(int road, int land) {
        if (!canBe(road, land, 0)) {
            return refuse(BAD_NUMBER);
        }
        if (now.size >= PEOPLE) {
            return refuse(NO_ROOM);
        }
        log.clear();
        return accept(now.join(road, land, 0));
    }

    public int hear(int person, int value) {
        if (value < 0 || value > MOST_HEARD) {
            return refuse(BAD_NUMBER);
        }
        if (!now.has(person)) {
            return refuse(NO_SUCH);
        }
        if (now.place[person] == HAS_BEEN) {
            return refuse(AS_IT_STANDS);
        }
        int was = now.heard[person];
        now.heard[person] = value;
        log.clear();
        return accept(was);
    }

    public int of(int person, int what) {
        if (!now.has(person)) {
            return NONE;
        }
        switch (what) {
            case 0:
                return now.road[person];
            case 1:
                return now.land[person];
            case 2:
                return now.heard[person];
            case 3:
                return now.place[person];
            case 4:
                return now.place[person] == ON_ROAD ? now.till[person] : NONE;
            case 5:
                return now.worth(person);
            default:
                return NONE;
        }
    }

    public int talk(int one, int other, int is) {
        if (one == other || is < 0 || is > 1) {
            return refuse(BAD_NUMBER);
        }
        if (!now.has(one) || !now.has(other)) {
            return refuse(NO_SUCH);
        }
        int was = now.friends[one] >> other & 1;
        if (was != is) {
            now.friends[one] ^= 1 << other;
            now.friends[other] ^= 1 << one;
        }
        return accept(was);
    }

    public int fog(int day, int is) {
        if (day < 0 || day >= FOG_DAYS || is < 0 || is > 1) {
            return refuse(BAD_NUMBER);
        }
        int was = now.fogs[day];
        now.fogs[day] = is;
        return accept(was);
    }

    public int terms(int what, int value) {
        if (what < 0 || what >= TERMS || value < 0 || value > mostOfTerm(what)) {
            return refuse(BAD_NUMBER);
        }
        if (what == DAY && now.anyOnRoad()) {
            return refuse(AS_IT_STANDS);
        }
        int was = now.term[what];
        now.term[what] = value;
        log.clear();
        return accept(was);
    }

    public int feed(int a, int b, int c, int d, int e) {
        if (reader.length + 20 > TAPE) {
            return NONE;
        }
        reader.append(a);
        reader.append(b);
        reader.append(c);
        reader.append(d);
        reader.append(e);
        return reader.length;
    }

    public int end(int n) {
        if (n < 0 || n > reader.length) {
            return NONE;
        }
        reader.length = n;
        return n;
    }

    public int row() {
        int length = reader.length;
        if (length == 0) {
            return refuse(UNREADABLE);
        }
        reader.length = 0;
        int came = 0;
        int lost = 0;
        for (int i = 0; i < length; i += 3) {
            if (i + 2 < length && joins(reader.tape[i], reader.tape[i + 1], reader.tape[i + 2])) {
                came++;
            } else {
                lost++;
            }
        }
        saltOfRow = lost;
        log.clear();
        return accept(came);
    }

    public int salt() {
        return saltOfRow;
    }

    public int law() {
        if (now.lawCount >= LAWS) {
            reader.length = 0;
            return refuse(NO_ROOM);
        }
        boolean read = reader.read(false);
        reader.length = 0;
        if (!read) {
            return refuse(UNREADABLE);
        }
        now.laws[now.lawCount] = new Text(reader.draft);
        now.lawCount++;
        return accept(now.lawCount - 1);
    }

    public int orders() {
        boolean read = reader.read(true);
        reader.length = 0;
        runner.stoppedAt = NONE;
        if (!read) {
            return refuse(UNREADABLE);
        }
        before.copyFrom(now);
        logBefore.copyFrom(log);
        int run = runner.run(reader.draft);
        if (runner.stoppedAt != NONE) {
            now.copyFrom(before);
            log.copyFrom(logBefore);
            return refuse(AS_IT_STANDS);
        }
        return accept(run);
    }

    public int fault() {
        return reader.wrong;
    }

    public int stopped() {
        return runner.stoppedAt;
    }

    public int force(int law) {
        if (law < NONE || law >= now.lawCount) {
            return refuse(NO_SUCH);
        }
        int was = now.inForce;
        now.inForce = law;
        return accept(was);
    }

    public int asks(int person, int other, int what) {
        if (!now.has(person)) {
            return NONE;
        }
        switch (what) {
            case 0:
                return judge.takes(person);
            case 1:
                return judge.costs(person);
            case 2:
                return judge.lodges(person);
            case 3:
                return judge.barsNow(person) ? 1 : 0;
            case 4:
                return now.has(other) && other != person ? judge.spoils(person, other) : NONE;
            default:
                return NONE;
        }
    }

    public int send(int person) {
        return told(deeds.summon(person));
    }

    public int light(int crew) {
        return told(deeds.kindle(crew));
    }

    public int dark() {
        return told(deeds.idle());
    }

    public int undo() {
        int kind = log.takeBack(now);
        return kind == NONE ? refuse(AS_IT_STANDS) : accept(kind);
    }

    public int last(int i) {
        paper.prepare();
        int nights = search.longest(paper.people);
        return i == NONE ? nights : search.crewOf(i, nights);
    }

    public int cheap(int n, int i) {
        if (n < 1 || n > PEOPLE) {
            return NONE;
        }
        paper.prepare();
        paper.askPrices();
        int price = search.cheapest(n);
        if (i == NONE || price == NONE) {
            return price;
        }
        return search.crewOf(i, n);
    }

    public long ways(int n) {
        if (n < 0 || n > PEOPLE) {
            return NONE;
        }
        paper.prepare();
        return search.rowsOf(n);
    }

    public int late(int person) {
        if (!now.has(person)) {
            return NONE;
        }
        paper.prepare();
        return search.latestOf(person);
    }

    public int swaps(int i) {
        paper.prepare();
        int nights = search.turns();
        return i == NONE ? nights : search.crewOf(i, nights);
    }

    public int crews(int i) {
        paper.prepare();
        int many = paper.list(0, now.here(), paper.heard);
        if (i == NONE) {
            return many;
        }
        return i >= 0 && i < many ? paper.crewAt(0, i) : NONE;
    }

    public int share(int land) {
        if (land < 0 || land >= LANDS) {
            return NONE;
        }
        paper.prepare();
        int all = search.longest(paper.people);
        return all - search.longest(paper.people & ~now.peopleOf(land));
    }

    public int harm(int person) {
        if (!now.has(person) || now.place[person] == HAS_BEEN) {
            return NONE;
        }
        int lost = 0;
        for (int other = 0; other < now.size; other++) {
            if (now.talks(person, other) && now.place[other] != HAS_BEEN) {
                lost += Math.min(judge.spoils(person, other), now.worth(other));
            }
        }
        return lost;
    }

    public int hush(int n, int what) {
        if (n < 1 || n > PEOPLE || what < 0 || what > 2) {
            return NONE;
        }
        paper.prepare();
        for (int few = 0; few <= 2; few++) {
            int found = search.hushings(n, few);
            if (found > 0) {
                return what == 0 ? few : what == 1 ? search.lowest : found;
            }
        }
        return NONE;
    }

    public int who(int n) {
        if (n < 0 || n > PEOPLE) {
            return NONE;
        }
        paper.prepare();
        int bits = 0;
        for (int p = 0; p < now.size; p++) {
            int bit = 1 << p;
            if ((paper.people & bit) != 0 && search.longest(paper.people & ~bit) == n) {
                bits |= bit;
            }
        }
        return bits;
    }

    public int winter(int seed, int n) {
        if (seed < 0 || seed > MOST_SEED || n < 1 || n > WINTER) {
            return refuse(BAD_NUMBER);
        }
        paper.prepare();
        drawnNights = n;
        return accept(paper.winterBy(seed, n, drawnCrews));
    }

    public int drawn(int k) {
        return k >= 0 && k < drawnNights ? drawnCrews[k] : NONE;
    }

    public int image(int k) {
        if (k < 0 || k >= IMAGES) {
            return refuse(BAD_NUMBER);
        }
        if (images[k] == null) {
            images[k] = new Coast();
        }
        images[k].copyFrom(now);
        return accept(0);
    }

    public int back(int k) {
        if (k < 0 || k >= IMAGES) {
            return refuse(BAD_NUMBER);
        }
        Coast kept = images[k];
        if (kept == null) {
            return refuse(NO_SUCH);
        }
        now.copyFrom(kept);
        log.clear();
        return accept(0);
    }

    public int count(int what) {
        switch (what) {
            case 0:
                return now.size;
            case 1:
                return now.pairs();
            case 2:
                return now.lit;
            case 3:
                return now.unlit;
            case 4:
                return now.spent;
            case 5:
                return now.lawCount;
            case 6:
                return log.size;
            case 7:
                return reader.length;
            case 8:
            case 9:
            case 10:
                return refusals[what - 7];
            case 11:
            case 12:
                return refusals[what - 6];
            case 13:
                return now.inForce;
            case 14:
            case 15:
            case 16:
                return now.term[what - 14];
            default:
                return NONE;
        }
    }

    public int status() {
        return refusedBy;
    }

    private int refuse(int by) {
        refusedBy = by;
        if (-by >= 0 && -by < refusals.length) {
            refusals[-by]++;
        }
        return by;
    }

    private int accept(int answer) {
        refusedBy = 0;
        return answer;
    }

    private int told(int answer) {
        return answer < 0 ? refuse(answer) : accept(answer);
    }

    private boolean joins(int road, int land, int heard) {
        if (now.size >= PEOPLE || !canBe(road, land, heard)) {
            return false;
        }
        now.join(road, land, heard);
        return true;
    }

    private static boolean canBe(int road, int land, int heard) {
        return road >= 0 && road <= MOST_ROAD && land >= 0 && land < LANDS && heard >= 0 && heard <= MOST_HEARD;
    }

    private static int mostOfTerm(int what) {
        return what == DAY ? LAST_DAY : what == FOGGY ? 10 : 9;
    }

    /** All that an image keeps. */
    private static final class Coast {
        int size;
        final int[] road = new int[PEOPLE];
        final int[] land = new int[PEOPLE];
        final int[] heard = new int[PEOPLE];
        final int[] place = new int[PEOPLE];
        final int[] till = new int[PEOPLE];
        final int[] friends = new int[PEOPLE];
        final int[] fogs = new int[FOG_DAYS];
        final int[] term = new int[TERMS];
        final Text[] laws = new Text[LAWS];
        int lawCount;
        int inForce = NONE;
        int lit;
        int unlit;
        int spent;

        Coast() {
            term[FOGGY] = 3;
        }

        void copyFrom(Coast from) {
            size = from.size;
            System.arraycopy(from.road, 0, road, 0, PEOPLE);
            System.arraycopy(from.land, 0, land, 0, PEOPLE);
            System.arraycopy(from.heard, 0, heard, 0, PEOPLE);
            System.arraycopy(from.place, 0, place, 0, PEOPLE);
            System.arraycopy(from.till, 0, till, 0, PEOPLE);
            System.arraycopy(from.friends, 0, friends, 0, PEOPLE);
            System.arraycopy(from.fogs, 0, fogs, 0, FOG_DAYS);
            System.arraycopy(from.term, 0, term, 0, TERMS);
            for (int i = 0; i < LAWS; i++) {
                laws[i] = from.laws[i];
            }
            lawCount = from.lawCount;
            inForce = from.inForce;
            lit = from.lit;
            unlit = from.unlit;
            spent = from.spent;
        }

        boolean has(int person) {
            return person >= 0 && person < size && person < PEOPLE;
        }

        int join(int itsRoad, int itsLand, int itsHeard) {
            if (size < 0 || size >= PEOPLE) {
                return NO_ROOM;
            }
            road[size] = itsRoad;
            land[size] = itsLand;
            heard[size] = itsHeard;
            place[size] = AT_HOME;
            till[size] = 0;
            friends[size] = 0;
            size++;
            return size - 1;
        }

        int worth(int person) {
            return place[person] == HAS_BEEN ? 0 : MOST_HEARD - heard[person];
        }

        boolean talks(int one, int other) {
            return (friends[one] >> other & 1) != 0;
        }

        int fogOn(int day) {
            return day >= 0 && day < FOG_DAYS ? fogs[day] : 0;
        }

        boolean anyOnRoad() {
            for (int p = 0; p < size; p++) {
                if (place[p] == ON_ROAD) {
                    return true;
                }
            }
            return false;
        }

        int here() {
            int bits = 0;
            for (int p = 0; p < size; p++) {
                if (place[p] == IS_HERE) {
                    bits |= 1 << p;
                }
            }
            return bits;
        }

        int peopleOf(int itsLand) {
            int bits = 0;
            for (int p = 0; p < size; p++) {
                if (land[p] == itsLand) {
                    bits |= 1 << p;
                }
            }
            return bits;
        }

        int pairs() {
            int ends = 0;
            for (int p = 0; p < size; p++) {
                ends += Integer.bitCount(friends[p]);
            }
            return ends / 2;
        }
    }

    /** Clauses as code: that of a clause's sum, then that of its test. */
    private static final class Text {
        static final int NUMBER = 0;
        static final int WORD = 1;
        static final int ADD = 2;
        static final int SUBTRACT = 3;
        static final int MULTIPLY = 4;
        static final int DIVIDE = 5;
        static final int LEAVE = 6;
        static final int LESS = 7;
        static final int MORE = 8;
        static final int ALIKE = 9;
        static final int NOT = 10;
        static final int OR = 11;
        static final int AND = 12;

        final int[] code;
        final int[] verb;
        final int[] sumFrom;
        final int[] testFrom;
        final int[] ends;
        final int[] times;
        int length;
        int clauses;

        Text() {
            code = new int[TAPE];
            verb = new int[CLAUSES];
            sumFrom = new int[CLAUSES];
            testFrom = new int[CLAUSES];
            ends = new int[CLAUSES];
            times = new int[CLAUSES];
        }

        /** A law keeps no more than its text wants, since many of them may live in one room. */
        Text(Text draft) {
            length = draft.length;
            clauses = draft.clauses;
            code = Arrays.copyOf(draft.code, draft.length);
            verb = Arrays.copyOf(draft.verb, draft.clauses);
            sumFrom = Arrays.copyOf(draft.sumFrom, draft.clauses);
            testFrom = Arrays.copyOf(draft.testFrom, draft.clauses);
            ends = Arrays.copyOf(draft.ends, draft.clauses);
            times = Arrays.copyOf(draft.times, draft.clauses);
        }

        void add(int op, int operand) {
            if (length >= 0 && length < code.length) {
                code[length] = op << 16 | operand;
                length++;
            }
        }

        void replace(int at, int op, int operand) {
            if (at >= 0 && at < code.length) {
                code[at] = op << 16 | operand;
            }
        }
    }

    /** The tape, and how a text on it is read. */
    private static final class Reader {
        private static final String LAW_VERBS = "takes costs lodges spoils bars";
        private static final String LAW_WORDS = "person road land heard other theirs far day fog mood";
        private static final String ORDER_VERBS = "send light dark";
        private static final String ORDER_WORDS = "day lit nights done spent worth here";
        private static final int LAW_SUMS = 4;
        private static final int ORDER_SUMS = 2;
        private static final int FIRST_OF_PERSON = 5;
        private static final int MOST_NUMBER = 1_000;
        private static final int MOST_TIMES = 20;
        private static final int PARTS = 50;
        private static final int BRACKETS = 8;

        private static final int THE_END = 0;
        private static final int LETTERS = 1;
        private static final int DIGITS = 2;
        private static final int SIGN = 3;

        private static final int TEST = 0;
        private static final int BOTH = 1;
        private static final int SUM = 2;
        private static final int TERM = 3;

        final int[] tape = new int[TAPE];
        int length;
        final Text draft = new Text();
        int wrong = NONE;
        private boolean ordering;
        private int kind;
        private int from;
        private int to;
        private int number;
        private int parts;

        void append(int four) {
            for (int shift = 24; shift >= 0; shift -= 8) {
                if (length >= 0 && length < TAPE) {
                    tape[length] = four >> shift & 255;
                    length++;
                }
            }
        }

        boolean read(boolean orders) {
            ordering = orders;
            wrong = NONE;
            draft.length = 0;
            draft.clauses = 0;
            parts = 0;
            to = 0;
            advance();
            for (int i = 0; i < CLAUSES; i++) {
                if (!readClause(i)) {
                    return false;
                }
                if (kind == THE_END) {
                    return true;
                }
                if (!isSign(';')) {
                    return fail();
                }
                advance();
            }
            return fail();
        }

        private boolean fail() {
            wrong = from;
            return false;
        }

        private boolean readClause(int i) {
            int verb = place(ordering ? ORDER_VERBS : LAW_VERBS);
            if (verb == NONE) {
                return fail();
            }
            advance();
            draft.verb[i] = verb;
            draft.times[i] = 1;
            draft.sumFrom[i] = draft.length;
            if (verb < (ordering ? ORDER_SUMS : LAW_SUMS) && !readChain(SUM, 0)) {
                return false;
            }
            draft.testFrom[i] = draft.length;
            if (ordering && isWord("times") && !readTimes(i)) {
                return false;
            }
            if (isWord("if")) {
                advance();
                if (!readChain(TEST, 0)) {
                    return false;
                }
            }
            draft.ends[i] = draft.length;
            draft.clauses = i + 1;
            return true;
        }

        private boolean readTimes(int i) {
            advance();
            if (kind != DIGITS || number < 1 || number > MOST_TIMES) {
                return fail();
            }
            draft.times[i] = number;
            advance();
            return true;
        }

        private boolean readChain(int level, int depth) {
            if (!readLink(level, depth)) {
                return false;
            }
            for (int i = 0; i < TAPE; i++) {
                int op = joint(level);
                if (op == NONE) {
                    return true;
                }
                int mark = draft.length;
                boolean leaps = level == TEST || level == BOTH;
                if (leaps) {
                    draft.add(op, 0);
                }
                advance();
                if (!readLink(level, depth)) {
                    return false;
                }
                if (leaps) {
                    draft.replace(mark, op, draft.length);
                } else {
                    draft.add(op, 0);
                }
            }
            return fail();
        }

        private boolean readLink(int level, int depth) {
            switch (level) {
                case TEST:
                    return readChain(BOTH, depth);
                case BOTH:
                    return readPlain(depth);
                case SUM:
                    return readChain(TERM, depth);
                default:
                    return readPart(depth);
            }
        }

        private boolean readPlain(int depth) {
            boolean not = false;
            for (int i = 0; i < TAPE && isWord("not"); i++) {
                not = !not;
                advance();
            }
            boolean read = isSign('(') ? readBracket(TEST, ')', depth) : readComparison(depth);
            if (read && not) {
                draft.add(Text.NOT, 0);
            }
            return read;
        }

        private boolean readComparison(int depth) {
            if (!readChain(SUM, depth)) {
                return false;
            }
            int op = kind == SIGN ? "<>=".indexOf((char) sign()) : NONE;
            if (op < 0) {
                return fail();
            }
            advance();
            if (!readChain(SUM, depth)) {
                return false;
            }
            draft.add(Text.LESS + op, 0);
            return true;
        }

        private boolean readBracket(int inside, char closing, int depth) {
            if (depth >= BRACKETS) {
                return fail();
            }
            advance();
            if (!readChain(inside, depth + 1)) {
                return false;
            }
            if (!isSign(closing)) {
                return fail();
            }
            advance();
            return true;
        }

        private boolean readPart(int depth) {
            if (isSign('[')) {
                return readBracket(SUM, ']', depth);
            }
            int word = place(ordering ? ORDER_WORDS : LAW_WORDS);
            boolean small = kind == DIGITS && number <= MOST_NUMBER;
            if (word == NONE && !small || parts >= PARTS) {
                return fail();
            }
            parts++;
            if (small) {
                draft.add(Text.NUMBER, number);
            }
            advance();
            if (small) {
                return true;
            }
            return readWord(word);
        }

        private boolean readWord(int word) {
            if (!ordering || word < FIRST_OF_PERSON) {
                draft.add(Text.WORD, word);
                return true;
            }
            if (kind != DIGITS || number >= PEOPLE) {
                return fail();
            }
            draft.add(Text.WORD, FIRST_OF_PERSON + (word - FIRST_OF_PERSON) * PEOPLE + number);
            advance();
            return true;
        }

        private int joint(int level) {
            if (level == TEST) {
                return isWord("or") ? Text.OR : NONE;
            }
            if (level == BOTH) {
                return isWord("and") ? Text.AND : NONE;
            }
            if (kind != SIGN) {
                return NONE;
            }
            int at = (level == SUM ? "+-" : "*/%").indexOf((char) sign());
            return at < 0 ? NONE : at + (level == SUM ? Text.ADD : Text.MULTIPLY);
        }

        private void advance() {
            from = to;
            while (from < length && tape[from] == ' ') {
                from++;
            }
            to = from;
            number = 0;
            kind = from < length ? kindOf(tape[from]) : THE_END;
            while (to < length && kindOf(tape[to]) == kind && (kind != SIGN || to == from)) {
                if (kind == DIGITS) {
                    number = Math.min(number * 10 + tape[to] - '0', MOST_NUMBER + 1);
                }
                to++;
            }
        }

        private static int kindOf(int sign) {
            if (sign >= 'a' && sign <= 'z') {
                return LETTERS;
            }
            return sign >= '0' && sign <= '9' ? DIGITS : SIGN;
        }

        private int sign() {
            return from >= 0 && from < length ? tape[from] : 0;
        }

        private boolean isSign(char wanted) {
            return kind == SIGN && sign() == wanted;
        }

        private boolean isWord(String wanted) {
            return isWithin(wanted, 0, wanted.length());
        }

        private boolean isWithin(String words, int first, int behind) {
            if (kind != LETTERS || to - from != behind - first) {
                return false;
            }
            for (int i = first; i < behind; i++) {
                if (words.charAt(i) != tape[from + i - first]) {
                    return false;
                }
            }
            return true;
        }

        private int place(String words) {
            int index = 0;
            int first = 0;
            for (int i = 0; i <= words.length(); i++) {
                if (i == words.length() || words.charAt(i) == ' ') {
                    if (isWithin(words, first, i)) {
                        return index;
                    }
                    index++;
                    first = i + 1;
                }
            }
            return NONE;
        }
    }

    /** Sums and tests worked out over the words' values. */
    private static final class Abacus {
        private static final int MOST = 1_000_000_000;
        private static final long BEYOND = 1_000_000_001L;
        private static final int WORDS = 25;
        private static final int PILE = 64;

        final int[] words = new int[WORDS];
        int result;
        private final int[] pile = new int[PILE];

        /** False, if it is broken. */
        boolean solve(Text text, int from, int to) {
            int height = 0;
            int next = from;
            for (int i = from; i < to && i < text.length; i++) {
                if (i < next) {
                    continue;
                }
                int op = text.code[i] >> 16;
                int operand = text.code[i] & 0xFFFF;
                if (op == Text.NUMBER || op == Text.WORD) {
                    if (height >= PILE || op == Text.WORD && operand >= WORDS) {
                        return false;
                    }
                    pile[height] = op == Text.NUMBER ? operand : words[operand];
                    height++;
                    continue;
                }
                if (height < (op < Text.NOT ? 2 : 1)) {
                    return false;
                }
                int top = pile[height - 1];
                if (op == Text.NOT) {
                    pile[height - 1] = 1 - top;
                } else if (op == Text.OR || op == Text.AND) {
                    boolean settled = (top == 1) == (op == Text.OR);
                    next = settled ? operand : next;
                    height -= settled ? 0 : 1;
                } else {
                    long made = join(op, pile[height - 2], top);
                    if (made < -MOST || made > MOST) {
                        return false;
                    }
                    height--;
                    pile[height - 1] = (int) made;
                }
            }
            result = height > 0 ? pile[height - 1] : 0;
            return true;
        }

        private static long join(int op, long left, long right) {
            switch (op) {
                case Text.ADD:
                    return left + right;
                case Text.SUBTRACT:
                    return left - right;
                case Text.MULTIPLY:
                    return left * right;
                case Text.DIVIDE:
                    return right == 0 ? BEYOND : left / right;
                case Text.LEAVE:
                    return right == 0 ? BEYOND : left % right;
                case Text.LESS:
                    return left < right ? 1 : 0;
                case Text.MORE:
                    return left > right ? 1 : 0;
                default:
                    return left == right ? 1 : 0;
            }
        }
    }

    /** What the law in force tells. */
    private static final class Judge {
        private static final int TAKES = 0;
        private static final int COSTS = 1;
        private static final int LODGES = 2;
        private static final int SPOILS = 3;
        private static final int BARS = 4;

        private final Coast coast;
        private final Abacus abacus = new Abacus();

        Judge(Coast coast) {
            this.coast = coast;
        }

        int takes(int person) {
            setNow(person);
            return tells(TAKES, coast.road[person], 60);
        }

        int costs(int person) {
            setNow(person);
            return tells(COSTS, coast.road[person], 999);
        }

        int lodges(int person) {
            setNow(person);
            return tells(LODGES, 1, 99);
        }

        boolean barsNow(int person) {
            setNow(person);
            return tells(BARS, 0, 1) == 1;
        }

        boolean bars(int person, int heard, int day, int fog) {
            setPerson(person, heard, day, fog);
            return tells(BARS, 0, 1) == 1;
        }

        int spoils(int person, int other) {
            setPerson(person, NONE, NONE, NONE);
            abacus.words[4] = other;
            abacus.words[5] = coast.land[other];
            abacus.words[6] = coast.road[other];
            return tells(SPOILS, 1, MOST_HEARD);
        }

        private void setNow(int person) {
            int day = coast.term[DAY];
            setPerson(person, coast.heard[person], day, coast.fogOn(day));
        }

        private void setPerson(int person, int heard, int day, int fog) {
            int[] words = abacus.words;
            words[0] = person;
            words[1] = coast.road[person];
            words[2] = coast.land[person];
            words[3] = heard;
            words[4] = NONE;
            words[5] = NONE;
            words[6] = NONE;
            words[7] = day;
            words[8] = fog;
            words[9] = coast.term[MOOD];
        }

        private int tells(int verb, int otherwise, int most) {
            int force = coast.inForce;
            Text text = force >= 0 && force < LAWS ? coast.laws[force] : null;
            int answer = otherwise;
            if (text == null) {
                return answer;
            }
            for (int i = 0; i < text.clauses; i++) {
                if (text.verb[i] != verb) {
                    continue;
                }
                int test = text.testFrom[i];
                if (test < text.ends[i] && !(abacus.solve(text, test, text.ends[i]) && abacus.result == 1)) {
                    continue;
                }
                if (verb == BARS) {
                    answer = 1;
                } else if (abacus.solve(text, text.sumFrom[i], test)) {
                    answer = Math.max(0, Math.min(most, abacus.result));
                }
            }
            return answer;
        }
    }

    /** What can be undone: how it was ahead of each deed. */
    private static final class Log {
        private static final int KEPT = 16;
        private static final int WIDTH = 5 + 3 * PEOPLE;

        int size;
        private int oldest;
        private final int[] cells = new int[KEPT * WIDTH];

        void clear() {
            size = 0;
            oldest = 0;
        }

        void copyFrom(Log from) {
            size = from.size;
            oldest = from.oldest;
            System.arraycopy(from.cells, 0, cells, 0, KEPT * WIDTH);
        }

        void keep(int kind, Coast coast) {
            if (size >= KEPT) {
                oldest = (oldest + 1) % KEPT;
                size = KEPT - 1;
            }
            int at = placeOf(size);
            size++;
            cells[at] = kind;
            cells[at + 1] = coast.term[DAY];
            cells[at + 2] = coast.lit;
            cells[at + 3] = coast.unlit;
            cells[at + 4] = coast.spent;
            System.arraycopy(coast.heard, 0, cells, at + 5, PEOPLE);
            System.arraycopy(coast.place, 0, cells, at + 5 + PEOPLE, PEOPLE);
            System.arraycopy(coast.till, 0, cells, at + 5 + 2 * PEOPLE, PEOPLE);
        }

        int takeBack(Coast coast) {
            if (size <= 0) {
                return NONE;
            }
            size--;
            int at = placeOf(size);
            coast.term[DAY] = cells[at + 1];
            coast.lit = cells[at + 2];
            coast.unlit = cells[at + 3];
            coast.spent = cells[at + 4];
            System.arraycopy(cells, at + 5, coast.heard, 0, PEOPLE);
            System.arraycopy(cells, at + 5 + PEOPLE, coast.place, 0, PEOPLE);
            System.arraycopy(cells, at + 5 + 2 * PEOPLE, coast.till, 0, PEOPLE);
            return cells[at];
        }

        private int placeOf(int index) {
            return Math.floorMod(oldest + index, KEPT) * WIDTH;
        }
    }

    /** Sending, lighting and dark nights: what is answered, or by what it is refused. */
    private static final class Deeds {
        private static final int SENT = 0;
        private static final int KINDLED = 1;
        private static final int IDLE = 2;

        private final Coast coast;
        private final Judge judge;
        private final Log log;

        Deeds(Coast coast, Judge judge, Log log) {
            this.coast = coast;
            this.judge = judge;
            this.log = log;
        }

        int summon(int person) {
            if (!coast.has(person)) {
                return NO_SUCH;
            }
            if (coast.place[person] != AT_HOME) {
                return AS_IT_STANDS;
            }
            int costs = judge.costs(person);
            int takes = judge.takes(person);
            log.keep(SENT, coast);
            coast.spent += costs;
            coast.place[person] = takes == 0 ? IS_HERE : ON_ROAD;
            coast.till[person] = coast.term[DAY] + takes;
            return costs;
        }

        int kindle(int crew) {
            if (crew <= 0 || crew > EVERYBODY) {
                return BAD_NUMBER;
            }
            if (crew >> coast.size != 0) {
                return NO_SUCH;
            }
            int worth = worthOf(crew);
            int day = coast.term[DAY];
            if (day >= LAST_DAY || worth < Paper.wanted(coast.fogOn(day))) {
                return AS_IT_STANDS;
            }
            log.keep(KINDLED, coast);
            for (int p = 0; p < coast.size; p++) {
                if ((crew >> p & 1) != 0) {
                    coast.place[p] = HAS_BEEN;
                }
            }
            for (int p = 0; p < coast.size; p++) {
                if ((crew >> p & 1) != 0) {
                    spoilBy(p);
                }
            }
            coast.lit++;
            passNight();
            return worth;
        }

        int idle() {
            if (coast.term[DAY] >= LAST_DAY) {
                return AS_IT_STANDS;
            }
            log.keep(IDLE, coast);
            coast.unlit++;
            passNight();
            return coast.unlit;
        }

        /** NONE, if one of them may not light. */
        private int worthOf(int crew) {
            int worth = 0;
            for (int p = 0; p < coast.size; p++) {
                if ((crew >> p & 1) == 0) {
                    continue;
                }
                if (coast.place[p] != IS_HERE || coast.worth(p) <= 0 || judge.barsNow(p)) {
                    return NONE;
                }
                worth += coast.worth(p);
            }
            return worth;
        }

        private void spoilBy(int person) {
            for (int other = 0; other < coast.size; other++) {
                if (coast.talks(person, other) && coast.place[other] != HAS_BEEN) {
                    int heard = coast.heard[other] + judge.spoils(person, other);
                    coast.heard[other] = Math.min(MOST_HEARD, heard);
                }
            }
        }

        private void passNight() {
            for (int p = 0; p < coast.size; p++) {
                if (coast.place[p] == IS_HERE) {
                    coast.spent += judge.lodges(p);
                }
            }
            coast.term[DAY]++;
            for (int p = 0; p < coast.size; p++) {
                if (coast.place[p] == ON_ROAD && coast.till[p] <= coast.term[DAY]) {
                    coast.place[p] = IS_HERE;
                }
            }
        }
    }

    /** Runs orders, clause by clause. */
    private static final class Runner {
        private static final int SEND = 0;
        private static final int LIGHT = 1;

        int stoppedAt = NONE;
        private final Coast coast;
        private final Deeds deeds;
        private final Abacus abacus = new Abacus();

        Runner(Coast coast, Deeds deeds) {
            this.coast = coast;
            this.deeds = deeds;
        }

        int run(Text text) {
            stoppedAt = NONE;
            int done = 0;
            for (int i = 0; i < text.clauses; i++) {
                int test = text.testFrom[i];
                for (int time = 0; time < text.times[i]; time++) {
                    setWords(done);
                    if (test < text.ends[i] && !(abacus.solve(text, test, text.ends[i]) && abacus.result == 1)) {
                        continue;
                    }
                    boolean sound = abacus.solve(text, text.sumFrom[i], test);
                    int answer = !sound ? AS_IT_STANDS : text.verb[i] == SEND ? deeds.summon(abacus.result)
                            : text.verb[i] == LIGHT ? deeds.kindle(abacus.result) : deeds.idle();
                    if (answer < 0) {
                        stoppedAt = i;
                        return done;
                    }
                    done++;
                }
            }
            return done;
        }

        private void setWords(int done) {
            int[] words = abacus.words;
            words[0] = coast.term[DAY];
            words[1] = coast.lit;
            words[2] = coast.unlit;
            words[3] = done;
            words[4] = coast.spent;
            for (int p = 0; p < PEOPLE; p++) {
                boolean is = coast.has(p);
                words[5 + p] = is ? coast.worth(p) : NONE;
                words[5 + PEOPLE + p] = !is ? NONE : coast.place[p] == IS_HERE ? 1 : 0;
            }
        }
    }

    /**
     * The nights to come, all at home being sent for now. What people have heard is held as bits: of those who have
     * heard something, and, PEOPLE bits higher, of those who have heard all.
     */
    private static final class Paper {
        /** As many as ten people can make at most: four of worth 1 out of ten. */
        private static final int CREWS = 210;
        private static final int NEVER = 1_000_000;

        int people;
        int heard;
        private final Coast coast;
        private final Judge judge;
        private final int[] come = new int[PEOPLE];
        private final int[] price = new int[PEOPLE];
        private final int[] spoilsSome = new int[PEOPLE];
        private final int[] spoilsAll = new int[PEOPLE];
        private final int[] wants = new int[PEOPLE];
        private final int[] arrived = new int[PEOPLE];
        private final int[] freshFree = new int[PEOPLE];
        private final int[] wornFree = new int[PEOPLE];
        private final int[] lists = new int[PEOPLE * CREWS];
        private int start;
        private int listed;
        private int twos;
        private int ones;

        Paper(Coast coast, Judge judge) {
            this.coast = coast;
            this.judge = judge;
        }

        static int wanted(int fog) {
            return fog == 1 ? 4 : 2;
        }

        void prepare() {
            people = 0;
            heard = 0;
            for (int p = 0; p < coast.size; p++) {
                come[p] = nightOf(p);
                if (coast.place[p] != HAS_BEEN) {
                    people |= 1 << p;
                }
                if (coast.heard[p] > 0) {
                    heard |= 1 << p;
                }
                if (coast.heard[p] >= MOST_HEARD) {
                    heard |= 1 << (p + PEOPLE);
                }
                askSpoils(p);
            }
            for (int night = 0; night < coast.size; night++) {
                int fog = coast.fogOn(coast.term[DAY] + night);
                wants[night] = wanted(fog);
                arrived[night] = comeBy(night);
                freshFree[night] = freeOn(night, fog, 0, people & ~heard);
                wornFree[night] = freeOn(night, fog, 1, people & ~(heard >> PEOPLE));
            }
        }

        void askPrices() {
            for (int p = 0; p < coast.size; p++) {
                price[p] = coast.place[p] == AT_HOME ? judge.costs(p) : 0;
            }
        }

        int priceOf(int crew) {
            int sum = 0;
            for (int p = 0; p < coast.size; p++) {
                if ((crew >> p & 1) != 0) {
                    sum += price[p];
                }
            }
            return sum;
        }

        int landsOf(int crew) {
            int lands = 0;
            for (int p = 0; p < coast.size; p++) {
                if ((crew >> p & 1) != 0) {
                    lands |= 1 << coast.land[p];
                }
            }
            return lands;
        }

        /** Those who spoil somebody who has not been there, or can be spoilt. */
        int thoseWhoMatter() {
            int bits = 0;
            for (int p = 0; p < coast.size; p++) {
                int spoilt = (people >> p & 1) != 0 ? spoilsSome[p] & people : 0;
                bits |= spoilt == 0 ? 0 : spoilt | 1 << p;
            }
            return bits;
        }

        int sets() {
            return 1 << Math.max(0, Math.min(PEOPLE, coast.size));
        }

        /** How many nights from this one on the rest could light at most, by their worth and when they come. */
        int nightsFrom(int night, int rest, int heardThen) {
            int fresh = rest & ~heardThen;
            int worn = rest & heardThen & ~(heardThen >> PEOPLE);
            int wanted = 0;
            for (int k = night; k >= 0 && k < coast.size; k++) {
                wanted += wants[k];
                if (2 * Integer.bitCount(fresh & arrived[k]) + Integer.bitCount(worn & arrived[k]) < wanted) {
                    return k - night;
                }
            }
            return Math.max(0, coast.size - night);
        }

        /** What is heard, when a crew has lit it and some are hushed; the order in the crew does not matter. */
        int spoiled(int heardThen, int crew, int hushed) {
            int some = heardThen & EVERYBODY;
            int all = heardThen >> PEOPLE;
            int telling = crew & ~hushed;
            for (int p = 0; p < coast.size; p++) {
                if ((telling >> p & 1) != 0) {
                    all |= (spoilsAll[p] | some & spoilsSome[p]) & ~hushed;
                    some |= spoilsSome[p] & ~hushed;
                }
            }
            return all << PEOPLE | some;
        }

        /** Lists the crews of a night out of the rest: how many. */
        int list(int night, int rest, int heardThen) {
            if (night < 0 || night >= coast.size) {
                return 0;
            }
            twos = rest & freshFree[night] & ~heardThen;
            ones = rest & wornFree[night] & heardThen & ~(heardThen >> PEOPLE);
            return fill(night, wants[night]);
        }

        int crewAt(int night, int i) {
            int at = night * CREWS + i;
            return at >= 0 && at < lists.length ? lists[at] : 0;
        }

        int winterBy(int seed, int n, int[] crews) {
            int s = seed;
            int rest = people;
            int heardThen = heard;
            int lit = 0;
            for (int night = 0; night < n && night < crews.length; night++) {
                s = (s * 1103 + 12345) % 1_000_003;
                int fog = s % 10 < coast.term[FOGGY] ? 1 : 0;
                twos = freeOn(night, fog, 0, rest & ~heardThen);
                ones = freeOn(night, fog, 1, rest & heardThen & ~(heardThen >> PEOPLE));
                int crew = fill(0, wanted(fog)) > 0 ? lists[0] : 0;
                crews[night] = crew;
                lit += crew == 0 ? 0 : 1;
                rest &= ~crew;
                heardThen = spoiled(heardThen, crew, 0);
            }
            return lit;
        }

        private int nightOf(int person) {
            switch (coast.place[person]) {
                case AT_HOME:
                    return judge.takes(person);
                case ON_ROAD:
                    return coast.till[person] - coast.term[DAY];
                case IS_HERE:
                    return 0;
                default:
                    return NEVER;
            }
        }

        private void askSpoils(int person) {
            spoilsSome[person] = 0;
            spoilsAll[person] = 0;
            for (int other = 0; other < coast.size; other++) {
                if (!coast.talks(person, other)) {
                    continue;
                }
                int by = judge.spoils(person, other);
                spoilsSome[person] |= by > 0 ? 1 << other : 0;
                spoilsAll[person] |= by >= MOST_HEARD ? 1 << other : 0;
            }
        }

        private int comeBy(int night) {
            int bits = 0;
            for (int p = 0; p < coast.size; p++) {
                bits |= come[p] <= night ? 1 << p : 0;
            }
            return bits;
        }

        private int freeOn(int night, int fog, int ifHeard, int among) {
            int day = coast.term[DAY] + night;
            int bits = 0;
            for (int p = 0; p < coast.size; p++) {
                if ((among >> p & 1) != 0 && come[p] <= night && !judge.bars(p, ifHeard, day, fog)) {
                    bits |= 1 << p;
                }
            }
            return bits;
        }

        private int fill(int night, int want) {
            start = night * CREWS;
            listed = 0;
            pick(coast.size, want, 0);
            return listed;
        }

        /**
         * Crews have just the worth that is wanted: one with more has either somebody of worth 1 whom it does not
         * need, or is of even worth and has somebody of worth 2 too many. The highest is picked first, so that they
         * come by their bits.
         */
        private void pick(int below, int want, int crew) {
            for (int p = 0; p < below; p++) {
                int bit = 1 << p;
                int worth = (twos & bit) != 0 ? 2 : (ones & bit) != 0 ? 1 : 0;
                if (worth == 0 || worth > want) {
                    continue;
                }
                if (worth < want) {
                    pick(p, want - worth, crew | bit);
                } else if (listed < CREWS && start + listed < lists.length) {
                    lists[start + listed] = crew | bit;
                    listed++;
                }
            }
        }
    }

    /**
     * Goes through rows of crews, the first ones first. How it stands on a night hangs only on who has lit it till
     * then, so what was seen is not gone through again: a row through it would come behind one that was.
     */
    private static final class Search {
        private static final int UNPAID = 1_000_000;

        int lowest;
        private final Paper paper;
        private final int[] seen = new int[1 << PEOPLE];
        private final int[] fine = new int[1 << PEOPLE];
        private final int[] turned = new int[PEOPLE / 2 << PEOPLE];
        private final int[] row = new int[PEOPLE];
        private final int[] first = new int[PEOPLE];
        private final int[] latest = new int[PEOPLE];
        private long[] reached = new long[1 << PEOPLE];
        private long[] reachedNext = new long[1 << PEOPLE];
        private int people;
        private int hushed;
        private int limit;
        private int best;
        private boolean paying;
        private boolean aiming;
        private boolean turning;

        Search(Paper paper) {
            this.paper = paper;
        }

        int longest(int among) {
            set(among, 0, PEOPLE);
            climb(0, 0, paper.heard, 0);
            return best;
        }

        int cheapest(int n) {
            set(paper.people, 0, n);
            paying = true;
            aiming = true;
            best = UNPAID;
            climb(0, 0, paper.heard, 0);
            return best == UNPAID ? NONE : best;
        }

        int turns() {
            set(paper.people, 0, PEOPLE);
            turning = true;
            Arrays.fill(turned, 0);
            climb(0, 0, paper.heard, 0);
            return best;
        }

        int crewOf(int i, int nights) {
            return i >= 0 && i < nights && i < PEOPLE ? first[i] : NONE;
        }

        int latestOf(int person) {
            int nights = longest(paper.people);
            set(paper.people, 0, nights);
            Arrays.fill(fine, 0);
            Arrays.fill(latest, NONE);
            trace(0, 0, paper.heard);
            return person >= 0 && person < PEOPLE ? latest[person] : NONE;
        }

        /**
         * In how many ways so few can be hushed, if fewer did not do; the lowest of them is kept. To hush one who
         * matters to nobody does no more than to hush the others alone.
         */
        int hushings(int n, int few) {
            int matter = paper.thoseWhoMatter();
            int found = 0;
            for (int bits = 0; bits < paper.sets(); bits++) {
                if (Integer.bitCount(bits) == few && (bits & ~matter) == 0 && canReach(n, bits)) {
                    lowest = found == 0 ? bits : lowest;
                    found++;
                }
            }
            return found;
        }

        long rowsOf(int n) {
            int sets = paper.sets();
            Arrays.fill(reached, 0L);
            reached[0] = 1;
            for (int night = 0; night < n; night++) {
                Arrays.fill(reachedNext, 0L);
                for (int been = 0; been < sets; been++) {
                    if (reached[been] != 0) {
                        spread(night, been);
                    }
                }
                long[] old = reached;
                reached = reachedNext;
                reachedNext = old;
            }
            long sum = 0;
            for (int been = 0; been < sets; been++) {
                sum += reached[been];
            }
            return sum;
        }

        private boolean canReach(int n, int silent) {
            set(paper.people, silent, n);
            aiming = true;
            climb(0, 0, paper.heard, 0);
            return best >= n;
        }

        private void spread(int night, int been) {
            int many = paper.list(night, paper.people & ~been, paper.spoiled(paper.heard, been, 0));
            for (int i = 0; i < many; i++) {
                reachedNext[been | paper.crewAt(night, i)] += reached[been];
            }
        }

        private void set(int among, int silent, int atMost) {
            people = among;
            hushed = silent;
            limit = Math.min(PEOPLE, atMost);
            best = 0;
            paying = false;
            aiming = false;
            turning = false;
            Arrays.fill(seen, 0);
        }

        private void climb(int night, int been, int heard, int lands) {
            note(night, been);
            if (night >= PEOPLE || isVain(night, been, heard)) {
                return;
            }
            int many = paper.list(night, people & ~been, heard);
            for (int i = 0; i < many; i++) {
                int crew = paper.crewAt(night, i);
                int itsLands = turning ? paper.landsOf(crew) : 0;
                if ((itsLands & lands) != 0 || isSeen(night, been | crew, itsLands)) {
                    continue;
                }
                row[night] = crew;
                climb(night + 1, been | crew, paper.spoiled(heard, crew, hushed), itsLands);
            }
        }

        private void note(int night, int been) {
            int price = paying && night == limit ? paper.priceOf(been) : UNPAID;
            if (paying ? price < best : night > best) {
                best = paying ? price : night;
                System.arraycopy(row, 0, first, 0, PEOPLE);
            }
        }

        /** Whether nothing better than the best can come of it. */
        private boolean isVain(int night, int been, int heard) {
            if (night >= limit) {
                return true;
            }
            int hope = night + paper.nightsFrom(night, people & ~been, heard);
            if (aiming && hope < limit) {
                return true;
            }
            return paying ? paper.priceOf(been) >= best : best >= limit || hope <= best;
        }

        private boolean isSeen(int night, int been, int lands) {
            int[] marks = turning ? turned : seen;
            int at = turning ? (night >> 1 << PEOPLE) + been : been;
            int bit = turning ? 1 << (night & 1) * 16 + lands : 1 << night;
            if (at < 0 || at >= marks.length) {
                return true;
            }
            boolean was = (marks[at] & bit) != 0;
            marks[at] |= bit;
            return was;
        }

        /** Whether a row goes on to the limit; those in such rows are told their night. */
        private boolean trace(int night, int been, int heard) {
            if (night >= limit || night >= PEOPLE) {
                return true;
            }
            int bit = 1 << night;
            if ((seen[been] & bit) != 0) {
                return (fine[been] & bit) != 0;
            }
            seen[been] |= bit;
            int many = paper.list(night, people & ~been, heard);
            for (int i = 0; i < many; i++) {
                int crew = paper.crewAt(night, i);
                if (trace(night + 1, been | crew, paper.spoiled(heard, crew, 0))) {
                    fine[been] |= bit;
                    tellLate(crew, night);
                }
            }
            return (fine[been] & bit) != 0;
        }

        private void tellLate(int crew, int night) {
            for (int p = 0; p < PEOPLE; p++) {
                if ((crew >> p & 1) != 0) {
                    latest[p] = Math.max(latest[p], night);
                }
            }
        }
    }
}
