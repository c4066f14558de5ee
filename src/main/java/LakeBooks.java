/**
 * A town's accounts, kept as the level of its lake.
 *
 * Nothing is made after the constructor: all calls of a run share one room, so every row is used again.
 */
public final class LakeBooks {
    public static final int NONE = -1, BAD = -2, STATE = -3, FULL = -4;
    /** There is no such number. */
    public static final long NO = Long.MIN_VALUE;

    private static final int NOTHING = -11, CAST = -12, PLACE = -13, SIZE = -14;
    private static final int UNFOUND = -5, NO_DAILY = -5000, FAULTS = -10, CUT_SHORT = 100;
    /** Added to a refusal where NONE, BAD and STATE could be answers too. */
    private static final int FAR = -10000, FARTHER = -100000;

    private static final int STEPS = 6, STEP_MARKS = 10, MARKS = 60;
    private static final int ACCOUNTS = 6, LAWS = 6, TAPES = 6, TAPE_ITEMS = 60;
    private static final int TEXT_BYTES = 100, CLAUSES = 10, NESTS = 4;
    private static final int ROW_DAYS = 4, HAND_ROWS = 8, SEEN_ROWS = 4, TRACED = 20;
    private static final int LAST_DAY = 9999, MOST_BUCKETS = 9999, MOST_TOWN = 99999;
    private static final int MOST_WATER = 9999, MOST_DAILY = 30, MOST_STONES = 20;
    private static final int LONG_SEARCH = 60, SEEN_DAYS = 20;

    private static final int SAVING = 1, LENDING = 2, SWIMMING = 3, STONY = 4, LEAKING = 5, TOLD = 6;
    /** The KIND above each KIND, by number; -1 above ACCOUNT. */
    private static final int[] ABOVE = {-1, 0, 0, 0, 1, 2, 3};

    private static final int SPRING = 0, SUN = 1, MARK = 2, FLOOR = 3, RATE = 4, WORDS = 5, LETTERS = 6;
    private static final int NOT = -1, AND = -2, OR = -3;

    private static final int INTS = 2, LONGS = 3, BOOLEANS = 4;

    private final State now = new State();
    private final State image = new State();
    private final Asked asked = new Asked();
    private final Reader reader = new Reader();
    private final Law[] laws = new Law[LAWS];
    private final Tape[] tapes = new Tape[TAPES];
    private final Acts acts = new Acts();
    private boolean imaged;
    private int lawCount;

    public LakeBooks() {
        for (int i = 0; i < LAWS; i++) {
            laws[i] = new Law();
        }
        for (int i = 0; i < TAPES; i++) {
            tapes[i] = new Tape();
        }
    }

    // ---- the lake, accounts, laws

    public int area(int step, int n) {
        if (!within(step, 0, STEPS - 1)) {
            return NONE;
        }
        if (!within(n, 1, 20)) {
            return BAD;
        }
        return now.lake.change(step, n);
    }

    public int volume(int m) {
        return within(m, 0, MARKS) ? now.lake.volumeOf(m) : BAD;
    }

    public int account(int kind, int v, int daily) {
        if (!within(kind, 0, TOLD)) {
            return NONE;
        }
        if (!within(v, 0, 9) || !isDaily(daily)) {
            return BAD;
        }
        return now.open(kind, v, daily);
    }

    public int of(int account, int what) {
        Account one = now.find(account);
        if (one == null) {
            return FAR + NONE;
        }
        switch (what) {
            case 0: return one.kind;
            case 1: return one.v;
            case 2: return one.buckets;
            case 3: return one.daily;
            case 4: return one.stones;
            case 5: return one.lifts();
            case 6: return one.pours(now.level(), now.law.rate, now.day);
            case 7: return now.sunOf(one, now.level());
            default: return FAR + NONE;
        }
    }

    public int set(int account, int what, int n) {
        Account one = now.find(account);
        if (one == null || !within(what, 0, 2)) {
            return FAR + NONE;
        }
        if (!maySet(what, n)) {
            return FAR + BAD;
        }
        if (what == 2 && one.kind != STONY) {
            return FAR + STATE;
        }
        return one.change(what, n);
    }

    public int row(int account, int part, int n) {
        Account one = now.find(account);
        if (one == null || !within(part, 0, ROW_DAYS - 1)) {
            return NONE;
        }
        if (!within(n, 0, 9)) {
            return BAD;
        }
        return one.kind == TOLD ? one.changeRow(part, n) : STATE;
    }

    public int water(int n) {
        if (!within(n, 0, MOST_WATER)) {
            return BAD;
        }
        int was = now.water;
        now.water = n;
        return was;
    }

    public int feed(int sign) {
        return within(sign, 0, 127) ? reader.add(sign) : BAD;
    }

    public int law() {
        if (!within(lawCount, 0, LAWS - 1)) {
            return FULL;
        }
        Law next = laws[lawCount];
        int fault = reader.parse(next);
        reader.clear();
        if (fault != UNFOUND) {
            return FAULTS - fault;
        }
        now.law = next;
        lawCount++;
        return lawCount - 1;
    }

    public int told(int what) {
        switch (what) {
            case 0: return now.day;
            case 1: return now.water;
            case 2: return now.town;
            case 3: return now.level();
            case 4: return now.law.mark;
            case 5: return now.law.floor;
            case 6: return now.law.rate;
            case 7: return now.spring(now.level());
            default: return within(what, 10, 9 + STEPS) ? now.lake.areaOf(what - 10) : NONE;
        }
    }

    // ---- days

    public int day() {
        if (now.day >= LAST_DAY) {
            return STATE;
        }
        now.pass();
        return now.level();
    }

    public int on(int n, int what) {
        boolean ofOne = what >= 10 && now.find(what - 10) != null;
        if (!ofOne && !within(what, 0, 2)) {
            return FAR + NONE;
        }
        if (!within(n, 0, 40)) {
            return FAR + BAD;
        }
        State then = asked.after(now, n);
        switch (what) {
            case 0: return then.water;
            case 1: return then.level();
            case 2: return then.town;
            default: return then.bucketsOf(what - 10);
        }
    }

    public int dry() {
        return asked.daysTillDry(now);
    }

    public int lowest(int n) {
        return within(n, 0, 40) ? asked.daysTillLowest(now, n) : BAD;
    }

    public int ruined(int q) {
        return within(q, 0, 999) ? asked.firstBelow(now, -q) : BAD;
    }

    // ---- what one may

    public int may(int account, int n) {
        if (now.find(account) == null) {
            return FAR + NONE;
        }
        return within(n, 1, 12) ? asked.leastDaily(now, account, n) : FAR + BAD;
    }

    public int enough(int account, int q) {
        if (now.find(account) == null) {
            return NONE;
        }
        return within(q, -999, 999) ? asked.daysTillEnough(now, account, q) : BAD;
    }

    public int lifted() {
        return now.level() - now.lake.levelOf(now.water);
    }

    public int without(int account, int n) {
        if (now.find(account) == null) {
            return FARTHER + NONE;
        }
        return within(n, 1, 40) ? asked.waterBy(now, account, n) : FARTHER + BAD;
    }

    public int wells(int n) {
        return within(n, 1, 10) ? asked.leastWell(now, n) : BAD;
    }

    public long share(int account, int n, int part) {
        if (now.find(account) == null || !within(n, 1, 40) || !isPart(part)) {
            return NO;
        }
        return asked.sunShare(now, account, n, part);
    }

    public int richest(int n) {
        return within(n, 0, 40) ? asked.after(now, n).richestNow() : BAD;
    }

    // ---- seen, odds

    public int see(int n, int level) {
        if (n == -1) {
            return now.seen.clear();
        }
        if (!within(n, 0, SEEN_DAYS) || !within(level, 0, MARKS)) {
            return BAD;
        }
        return now.seen.add(n, level);
    }

    public int hidden(int account, int what) {
        Account one = now.find(account);
        if (one == null || !within(what, 0, 1)) {
            return NONE;
        }
        if (one.kind != STONY) {
            return STATE;
        }
        int sum = 0, least = UNFOUND;
        for (int stones = MOST_STONES; stones >= 0; stones--) {
            if (asked.isAsSeenWith(now, account, stones)) {
                sum++;
                least = stones;
            }
        }
        return what == 0 ? sum : least;
    }

    public int whose() {
        return asked.absencesAsSeen(now);
    }

    public long odds(int n, int part) {
        return within(n, 1, 20) && isPart(part) ? asked.springlessOdds(now, n, part) : NO;
    }

    public long mean(int n, int part) {
        return within(n, 1, 40) && isPart(part) ? asked.meanLevel(now, n, part) : NO;
    }

    // ---- plans, books

    public int plan(int account, int daily) {
        if (account == -1) {
            return now.plan.clear();
        }
        if (now.find(account) == null) {
            return NONE;
        }
        return isDaily(daily) ? now.plan.add(account, daily) : BAD;
    }

    public int planned(int what) {
        if (!within(what, 0, 1)) {
            return NONE;
        }
        State then = asked.afterPlan(now);
        return what == 0 ? then.water : then.level();
    }

    public int book(int account, int buckets) {
        if (account == -1) {
            return now.book.clear();
        }
        if (now.find(account) == null) {
            return NONE;
        }
        return within(buckets, -MOST_BUCKETS, MOST_BUCKETS) ? now.book.add(account, buckets) : BAD;
    }

    public int looked() {
        for (int r = 0; r < now.book.size(); r++) {
            if (now.bucketsOf(now.book.first(r)) != now.book.second(r)) {
                return r;
            }
        }
        return UNFOUND;
    }

    // ---- judging, the image, acts, tapes

    public int judge(int tape, int i) {
        Tape row = findTape(tape);
        if (row == null) {
            return NONE;
        }
        if (!row.isEmpty() && row.sort != INTS) {
            return CAST;
        }
        for (int a = 0; a < now.accountCount; a++) {
            // The place is looked at before a is added to it: i + a could wrap.
            if (i < 0 || i >= row.size - a) {
                return CUT_SHORT + a;
            }
            if (row.get(i + a) != now.bucketsOf(a)) {
                return a;
            }
        }
        return UNFOUND;
    }

    public int image() {
        image.copyFrom(now);
        imaged = true;
        return now.accountCount;
    }

    public int undo() {
        if (!imaged) {
            return STATE;
        }
        now.copyFrom(image);
        return now.accountCount;
    }

    public int act(int account, int act, int x) {
        return acts.perform(now.find(account), act, x);
    }

    public int trace(int i) {
        return acts.bodyAt(i);
    }

    public int taken(int account, int k) {
        if (!within(k, 0, TOLD)) {
            return BAD;
        }
        Account one = now.find(account);
        if (one == null) {
            return NOTHING;
        }
        return isOrUnder(one.kind, k) ? one.kind : CAST;
    }

    public int count(int what) {
        switch (what) {
            case 0: return now.accountCount;
            case 1: return lawCount;
            case 2: return now.seen.size();
            case 3: return now.plan.size();
            case 4: return now.book.size();
            case 5: return reader.length();
            case 6: return acts.ran();
            default: return BAD;
        }
    }

    public int tape(int tape, int sort, int n) {
        Tape row = findTape(tape);
        if (row == null) {
            return NONE;
        }
        if (sort == Tape.EMPTY) {
            return row.become(sort, 0);
        }
        if (!within(sort, 0, BOOLEANS) || n > TAPE_ITEMS) {
            return BAD;
        }
        return n < 0 ? SIZE : row.become(sort, n);
    }

    public int item(int tape, int i, long v) {
        Tape row = findTape(tape);
        if (row == null) {
            return NONE;
        }
        if (row.isEmpty()) {
            return NOTHING;
        }
        return row.put(i, v) ? 1 : PLACE;
    }

    public long read(int tape, int i) {
        Tape row = findTape(tape);
        return row == null ? NO : row.get(i);
    }

    public int shift(int tape, int i, int other, int j, int n) {
        Tape from = findTape(tape), to = findTape(other);
        if (from == null || to == null) {
            return NONE;
        }
        if (from.isEmpty() || to.isEmpty()) {
            return NOTHING;
        }
        if (from.sort != to.sort) {
            return CAST;
        }
        return to.takeFrom(from, i, j, n) ? n : PLACE;
    }

    // ---- what the calls have in common

    private static boolean within(int n, int least, int most) {
        return n >= least && n <= most;
    }

    private static boolean isDaily(int n) {
        return within(n, -MOST_DAILY, MOST_DAILY);
    }

    private static boolean isPart(int part) {
        return part == 0 || part == 1;
    }

    private static boolean maySet(int what, int n) {
        switch (what) {
            case 0: return within(n, -999, 999);
            case 1: return isDaily(n);
            default: return within(n, 0, MOST_STONES);
        }
    }

    private Tape findTape(int tape) {
        return within(tape, 0, TAPES - 1) ? tapes[tape] : null;
    }

    private static int at(int[] row, int i) {
        return i >= 0 && i < row.length ? row[i] : 0;
    }

    private static int kindAbove(int kind) {
        return kind >= 0 && kind < ABOVE.length ? ABOVE[kind] : NONE;
    }

    private static boolean isOrUnder(int kind, int k) {
        int up = kind;
        for (int i = 0; i < ABOVE.length && up >= 0; i++) {
            if (up == k) {
                return true;
            }
            up = kindAbove(up);
        }
        return false;
    }

    /** One part of a fraction of two numbers that are not below 0: 0 above, 1 below the line. */
    private static long lowestTerms(long above, long below, int part) {
        long divisor = commonDivisor(above, below);
        if (below <= 0 || divisor <= 0) {
            return NO;
        }
        return (part == 0 ? above : below) / divisor;
    }

    private static long commonDivisor(long one, long other) {
        long a = one, b = other;
        for (int i = 0; i < 100 && b != 0; i++) {
            long rest = a % b;
            a = b;
            b = rest;
        }
        return a;
    }

    /** The steps of the lake: what each mark holds. */
    private static final class Lake {
        private final int[] areas = new int[STEPS];

        Lake() {
            for (int s = 0; s < STEPS; s++) {
                areas[s] = 10;
            }
        }

        int areaOf(int step) {
            return at(areas, step);
        }

        int change(int step, int n) {
            int was = at(areas, step);
            if (step >= 0 && step < areas.length) {
                areas[step] = n;
            }
            return was;
        }

        int volumeOf(int marks) {
            int left = marks, sum = 0;
            for (int area : areas) {
                int here = Math.max(0, Math.min(left, STEP_MARKS));
                sum += here * area;
                left -= here;
            }
            return sum;
        }

        int levelOf(int buckets) {
            int left = buckets, marks = 0;
            for (int area : areas) {
                if (area <= 0 || left < area * STEP_MARKS) {
                    return area > 0 ? marks + left / area : marks;
                }
                left -= area * STEP_MARKS;
                marks += STEP_MARKS;
            }
            return marks;
        }

        void copyFrom(Lake other) {
            for (int s = 0; s < STEPS; s++) {
                areas[s] = at(other.areas, s);
            }
        }
    }

    /** One account. While it is not here, it neither pours nor lifts nor is charged. */
    private static final class Account {
        private final int number;
        private final int[] row = new int[ROW_DAYS];
        private boolean here;
        private int kind, v, buckets, daily, stones;
        /** What the day that goes took as told ahead of it. */
        private int dayPours, daySun;

        Account(int number) {
            this.number = number;
        }

        void open(int newKind, int newV, int newDaily) {
            here = true;
            kind = newKind;
            v = newV;
            daily = newDaily;
            buckets = 0;
            stones = 0;
            for (int d = 0; d < ROW_DAYS; d++) {
                row[d] = 0;
            }
        }

        int change(int what, int n) {
            int was = what == 0 ? buckets : what == 1 ? daily : stones;
            if (what == 0) {
                buckets = n;
            } else if (what == 1) {
                daily = n;
            } else {
                stones = n;
            }
            return was;
        }

        int changeRow(int part, int n) {
            int was = at(row, part);
            if (part >= 0 && part < row.length) {
                row[part] = n;
            }
            return was;
        }

        int lifts() {
            if (!here) {
                return 0;
            }
            switch (kind) {
                case SWIMMING: case TOLD: return v;
                case STONY: return 5 * stones;
                default: return 0;
            }
        }

        int pours(int level, int rate, int day) {
            if (!here) {
                return 0;
            }
            switch (kind) {
                case SAVING: case STONY: return daily + Math.max(buckets, 0) * rate / 100;
                case LENDING: return daily - v;
                case LEAKING: return daily - v - (level > 30 ? 1 : 0);
                case TOLD: return daily + at(row, Math.floorMod(day, ROW_DAYS));
                default: return daily;
            }
        }

        void holdBuckets() {
            buckets = Math.max(-MOST_BUCKETS, Math.min(buckets, MOST_BUCKETS));
        }

        void copyFrom(Account other) {
            here = other.here;
            kind = other.kind;
            v = other.v;
            buckets = other.buckets;
            daily = other.daily;
            stones = other.stones;
            for (int d = 0; d < ROW_DAYS; d++) {
                row[d] = at(other.row, d);
            }
        }
    }

    /** Rows of two numbers told by hand, up to a limit. */
    private static final class Rows {
        private final int[] firsts = new int[HAND_ROWS], seconds = new int[HAND_ROWS];
        private final int most;
        private int used;

        Rows(int most) {
            this.most = Math.min(most, HAND_ROWS);
        }

        int size() {
            return used;
        }

        int first(int r) {
            return at(firsts, r);
        }

        int second(int r) {
            return at(seconds, r);
        }

        int clear() {
            used = 0;
            return used;
        }

        int add(int first, int second) {
            if (!within(used, 0, most - 1)) {
                return FULL;
            }
            firsts[used] = first;
            seconds[used] = second;
            used++;
            return used;
        }

        void copyFrom(Rows other) {
            used = other.used;
            for (int r = 0; r < HAND_ROWS; r++) {
                firsts[r] = at(other.firsts, r);
                seconds[r] = at(other.seconds, r);
            }
        }
    }

    /** A law that was read: its tests stand in code, operands first, clause behind clause. */
    private static final class Law {
        private final int[] words = new int[CLAUSES], numbers = new int[CLAUSES], ends = new int[CLAUSES];
        private final int[] code = new int[TEXT_BYTES];
        /** What each letter of a test stands for now, in the order of the reader's letters. */
        private final int[] values = new int[LETTERS];
        private int clauses, codes;
        private int mark, floor, rate;

        Law() {
            clear();
        }

        void clear() {
            clauses = 0;
            codes = 0;
            mark = 50;
            floor = 5;
            rate = 0;
        }

        void tell(int word, int n) {
            switch (word) {
                case MARK: mark = Math.min(n, MARKS); break;
                case FLOOR: floor = Math.min(n, MARKS); break;
                case RATE: rate = n; break;
                default: break;
            }
        }

        void put(int token) {
            if (within(codes, 0, TEXT_BYTES - 1)) {
                code[codes] = token;
                codes++;
            }
        }

        /** The code put since the clause before is this clause's. */
        void close(int word, int n) {
            if (within(clauses, 0, CLAUSES - 1)) {
                words[clauses] = word;
                numbers[clauses] = n;
                ends[clauses] = codes;
                clauses++;
            }
        }

        /** The n of all clauses of a word that hold, together; one may be null: without an account. */
        int together(int word, Account one, int level, int day) {
            tellValues(one, level, day);
            int sum = 0, from = 0;
            for (int c = 0; c < clauses && c < CLAUSES; c++) {
                if (words[c] == word && holds(from, ends[c])) {
                    sum += numbers[c];
                }
                from = ends[c];
            }
            return sum;
        }

        private void tellValues(Account one, int level, int day) {
            boolean alone = one == null;
            values[0] = day % 10;
            values[1] = Math.min(day / 10, 99);
            values[2] = level;
            values[3] = alone ? 9 : one.number;
            values[4] = alone ? 9 : one.kind;
            values[5] = alone ? 9 : one.buckets / 10;
        }

        private boolean holds(int from, int to) {
            // The truths that wait are bits, the latest one lowest: tests nest too little to fill a long.
            long truths = 0;
            for (int i = Math.max(from, 0); i < to && i < TEXT_BYTES; i++) {
                int token = code[i];
                if (token == NOT) {
                    truths ^= 1;
                } else if (token == AND) {
                    truths = (truths >>> 1) & (truths | ~1L);
                } else if (token == OR) {
                    truths = (truths >>> 1) | (truths & 1);
                } else {
                    int value = at(values, token / 300), number = token % 100, relation = token / 100 % 3;
                    boolean so = relation == 0 ? value < number : relation == 1 ? value == number : value > number;
                    truths = (truths << 1) | (so ? 1 : 0);
                }
            }
            return (truths & 1) == 1;
        }
    }

    /** THE TEXT, and how a law is read from it: what reads stops with place at the first wrong byte. */
    private static final class Reader {
        private static final String TESTED = "dmlakb", RELATIONS = "<=>";
        private final int[] text = new int[TEXT_BYTES];
        private int length;
        private int place;

        int length() {
            return length;
        }

        int add(int sign) {
            if (!within(length, 0, TEXT_BYTES - 1)) {
                return FULL;
            }
            text[length] = sign;
            length++;
            return length;
        }

        void clear() {
            length = 0;
        }

        /** The place of the fault, or UNFOUND: then the law is as the text. */
        int parse(Law law) {
            place = 0;
            law.clear();
            for (int c = 0; c < CLAUSES; c++) {
                if (c > 0 && !take(';')) {
                    return place;
                }
                int word = takeWord();
                int n = word >= 0 && take(' ') ? takeNumber() : NONE;
                if (n < 0) {
                    return place;
                }
                law.tell(word, n);
                if (word == SPRING || word == SUN) {
                    if (!take(' ') || !takeEither(law, 0)) {
                        return place;
                    }
                    law.close(word, n);
                }
                if (place >= length) {
                    return UNFOUND;
                }
            }
            return place;
        }

        private static String wordOf(int word) {
            switch (word) {
                case SPRING: return "spring";
                case SUN: return "sun";
                case MARK: return "mark";
                case FLOOR: return "floor";
                default: return "rate";
            }
        }

        private boolean take(int sign) {
            if (place < 0 || place >= length || place >= TEXT_BYTES || text[place] != sign) {
                return false;
            }
            place++;
            return true;
        }

        private int takeWord() {
            int longest = 0;
            for (int w = 0; w < WORDS; w++) {
                String word = wordOf(w);
                int same = sameSigns(word);
                if (same == word.length()) {
                    place += same;
                    return w;
                }
                longest = Math.max(longest, same);
            }
            place += longest;
            return NONE;
        }

        private int sameSigns(String word) {
            for (int i = 0; i < word.length(); i++) {
                if (place + i >= length || at(text, place + i) != word.charAt(i)) {
                    return i;
                }
            }
            return word.length();
        }

        /** One or two digits; NONE: there is none. */
        private int takeNumber() {
            int n = NONE;
            for (int i = 0; i < 2 && place < length; i++) {
                int digit = at(text, place) - '0';
                if (digit < 0 || digit > 9) {
                    return n;
                }
                n = Math.max(n, 0) * 10 + digit;
                place++;
            }
            return n;
        }

        private boolean takeEither(Law law, int depth) {
            if (!takeBoth(law, depth)) {
                return false;
            }
            for (int i = 0; i < TEXT_BYTES && take('|'); i++) {
                if (!takeBoth(law, depth)) {
                    return false;
                }
                law.put(OR);
            }
            return true;
        }

        private boolean takeBoth(Law law, int depth) {
            if (!takeFactor(law, depth)) {
                return false;
            }
            for (int i = 0; i < TEXT_BYTES && take('&'); i++) {
                if (!takeFactor(law, depth)) {
                    return false;
                }
                law.put(AND);
            }
            return true;
        }

        private boolean takeFactor(Law law, int depth) {
            if (depth < NESTS && take('(')) {
                return takeEither(law, depth + 1) && take(')');
            }
            if (depth < NESTS && take('!')) {
                if (!takeFactor(law, depth + 1)) {
                    return false;
                }
                law.put(NOT);
                return true;
            }
            return takeTest(law);
        }

        private boolean takeTest(Law law) {
            int letter = takeOneOf(TESTED);
            int relation = letter >= 0 ? takeOneOf(RELATIONS) : NONE;
            int number = relation >= 0 ? takeNumber() : NONE;
            if (number < 0) {
                return false;
            }
            law.put((letter * 3 + relation) * 100 + number);
            return true;
        }

        private int takeOneOf(String signs) {
            int found = place < length ? signs.indexOf((char) at(text, place)) : NONE;
            if (found >= 0) {
                place++;
            }
            return found;
        }
    }

    /** All that THE IMAGE holds, and how a day changes it. */
    private static final class State {
        private final Lake lake = new Lake();
        private final Account[] accounts = new Account[ACCOUNTS];
        private final Rows seen = new Rows(SEEN_ROWS), plan = new Rows(HAND_ROWS), book = new Rows(HAND_ROWS);
        private Law law = new Law();
        private int accountCount;
        private int water = 200;
        private int town;
        private int day;
        /** Only what is asked has more spring each day, or one day without. */
        private int moreSpring, springlessDay = NONE;

        State() {
            for (int a = 0; a < ACCOUNTS; a++) {
                accounts[a] = new Account(a);
            }
        }

        Account find(int a) {
            return a >= 0 && a < accountCount && a < ACCOUNTS ? accounts[a] : null;
        }

        int open(int kind, int v, int daily) {
            if (!within(accountCount, 0, ACCOUNTS - 1)) {
                return FULL;
            }
            accounts[accountCount].open(kind, v, daily);
            accountCount++;
            return accountCount - 1;
        }

        int bucketsOf(int a) {
            Account one = find(a);
            return one == null ? 0 : one.buckets;
        }

        int level() {
            int sum = water;
            for (Account one : accounts) {
                sum += one.lifts();
            }
            return lake.levelOf(sum);
        }

        int spring(int level) {
            return day == springlessDay ? 0 : 5 + moreSpring + law.together(SPRING, null, level, day);
        }

        int sunOf(Account one, int level) {
            return one.here ? law.together(SUN, one, level, day) : 0;
        }

        boolean isDry() {
            return level() <= law.floor;
        }

        /** The first whose buckets are below a number; UNFOUND: nobody's. */
        int firstBelow(int least) {
            for (int a = 0; a < accountCount; a++) {
                if (bucketsOf(a) < least) {
                    return a;
                }
            }
            return UNFOUND;
        }

        int richestNow() {
            int best = UNFOUND;
            for (int a = 0; a < accountCount; a++) {
                if (best == UNFOUND || bucketsOf(a) > bucketsOf(best)) {
                    best = a;
                }
            }
            return best;
        }

        int sunOfDay() {
            int sum = 0;
            for (Account one : accounts) {
                sum += one.daySun;
            }
            return sum;
        }

        /** A day goes: pours, sun, spring and the level are told ahead of all that changes. */
        void pass() {
            int level = level();
            int spring = spring(level);
            for (Account one : accounts) {
                one.dayPours = one.pours(level, law.rate, day);
                one.daySun = sunOf(one, level);
            }
            int floorVolume = lake.volumeOf(law.floor);
            for (Account one : accounts) {
                pourBy(one, floorVolume);
            }
            for (Account one : accounts) {
                one.buckets -= one.daySun;
                water = Math.max(0, water - one.daySun);
            }
            water += spring;
            spillTo(lake.volumeOf(law.mark));
            for (Account one : accounts) {
                one.holdBuckets();
            }
            day++;
        }

        private void pourBy(Account one, int floorVolume) {
            int most = Math.max(0, water - floorVolume);
            int poured = Math.max(one.dayPours, -most);
            one.buckets += poured;
            water += poured;
        }

        private void spillTo(int most) {
            if (water > most) {
                town = Math.min(MOST_TOWN, town + water - most);
                water = most;
            }
        }

        void copyFrom(State other) {
            lake.copyFrom(other.lake);
            for (int a = 0; a < ACCOUNTS; a++) {
                accounts[a].copyFrom(other.accounts[a]);
            }
            seen.copyFrom(other.seen);
            plan.copyFrom(other.plan);
            book.copyFrom(other.book);
            law = other.law;
            accountCount = other.accountCount;
            water = other.water;
            town = other.town;
            day = other.day;
            moreSpring = 0;
            springlessDay = NONE;
        }
    }

    /** What is asked goes on from how all is, in a copy of its own. */
    private static final class Asked {
        private final State later = new State();

        State after(State now, int n) {
            later.copyFrom(now);
            for (int d = 0; d < n; d++) {
                later.pass();
            }
            return later;
        }

        State afterPlan(State now) {
            later.copyFrom(now);
            for (int r = 0; r < now.plan.size(); r++) {
                Account one = later.find(now.plan.first(r));
                if (one != null) {
                    one.daily = now.plan.second(r);
                }
                later.pass();
            }
            return later;
        }

        int daysTillDry(State now) {
            later.copyFrom(now);
            for (int d = 0; d <= LONG_SEARCH; d++) {
                if (later.isDry()) {
                    return d;
                }
                later.pass();
            }
            return UNFOUND;
        }

        int daysTillLowest(State now, int n) {
            later.copyFrom(now);
            int best = 0, least = later.level();
            for (int d = 1; d <= n; d++) {
                later.pass();
                if (later.level() < least) {
                    least = later.level();
                    best = d;
                }
            }
            return best;
        }

        int firstBelow(State now, int least) {
            later.copyFrom(now);
            for (int d = 0; d <= LONG_SEARCH; d++) {
                int first = later.firstBelow(least);
                if (first != UNFOUND) {
                    return first;
                }
                later.pass();
            }
            return UNFOUND;
        }

        int leastDaily(State now, int account, int n) {
            for (int daily = -MOST_DAILY; daily <= MOST_DAILY; daily++) {
                later.copyFrom(now);
                Account one = later.find(account);
                if (one != null) {
                    one.daily = daily;
                }
                if (staysWet(n)) {
                    return daily;
                }
            }
            return NO_DAILY;
        }

        int daysTillEnough(State now, int account, int q) {
            later.copyFrom(now);
            for (int d = 0; d <= LONG_SEARCH; d++) {
                if (later.bucketsOf(account) >= q) {
                    return d;
                }
                later.pass();
            }
            return UNFOUND;
        }

        int waterBy(State now, int account, int n) {
            int with = after(now, n).water;
            beginWithout(now, account);
            for (int d = 0; d < n; d++) {
                later.pass();
            }
            return with - later.water;
        }

        int leastWell(State now, int n) {
            for (int more = 0; more <= 99; more++) {
                later.copyFrom(now);
                later.moreSpring = more;
                if (staysWet(n)) {
                    return more;
                }
            }
            return UNFOUND;
        }

        long sunShare(State now, int account, int n, int part) {
            later.copyFrom(now);
            Account one = later.find(account);
            long own = 0, all = 0;
            for (int d = 0; d < n; d++) {
                later.pass();
                own += one == null ? 0 : one.daySun;
                all += later.sunOfDay();
            }
            return lowestTerms(own, all, part);
        }

        /** Whether all of SEEN is so, had a stony account so many stones. */
        boolean isAsSeenWith(State now, int account, int stones) {
            later.copyFrom(now);
            Account one = later.find(account);
            if (one != null) {
                one.stones = stones;
            }
            return goesAsSeen();
        }

        int absencesAsSeen(State now) {
            int bits = 0;
            for (int a = 0; a < now.accountCount; a++) {
                beginWithout(now, a);
                if (goesAsSeen()) {
                    bits |= 1 << a;
                }
            }
            return bits;
        }

        long springlessOdds(State now, int n, int part) {
            int dried = 0;
            for (int d = 0; d < n; d++) {
                later.copyFrom(now);
                later.springlessDay = now.day + d;
                if (!staysWet(n)) {
                    dried++;
                }
            }
            return lowestTerms(dried, n, part);
        }

        long meanLevel(State now, int n, int part) {
            later.copyFrom(now);
            long sum = 0;
            for (int d = 0; d < n; d++) {
                later.pass();
                sum += later.level();
            }
            return lowestTerms(sum, n, part);
        }

        private void beginWithout(State now, int account) {
            later.copyFrom(now);
            Account one = later.find(account);
            if (one != null) {
                one.here = false;
            }
        }

        /** Whether the level is above the floor behind each of n days. */
        private boolean staysWet(int n) {
            for (int d = 0; d < n; d++) {
                later.pass();
                if (later.isDry()) {
                    return false;
                }
            }
            return true;
        }

        private boolean goesAsSeen() {
            int last = lastSeen();
            for (int d = 0; d <= last; d++) {
                if (!isAsSeenOn(d)) {
                    return false;
                }
                later.pass();
            }
            return true;
        }

        private int lastSeen() {
            int last = NONE;
            for (int r = 0; r < later.seen.size(); r++) {
                last = Math.max(last, later.seen.first(r));
            }
            return last;
        }

        private boolean isAsSeenOn(int day) {
            for (int r = 0; r < later.seen.size(); r++) {
                if (later.seen.first(r) == day && later.seen.second(r) != later.level()) {
                    return false;
                }
            }
            return true;
        }
    }

    /** The bodies of the kinds, and which of them ran in the latest act. */
    private static final class Acts {
        private static final int KEEPS = 0, POURS = 1, TELLS = 2, DEEPEST = 40;
        /** The body of each kind for keeps, pours, tells; 0: it has none. */
        private static final int[] BODIES = {
            10, 11, 12, 0, 20, 0, 30, 0, 0, 0, 0, 40, 50, 51, 0, 0, 0, 60, 71, 70, 0};
        private final int[] bodies = new int[TRACED];
        private int ran;

        int ran() {
            return ran;
        }

        int bodyAt(int i) {
            return i >= 0 && i < ran && i < TRACED ? bodies[i] : NONE;
        }

        int perform(Account one, int act, int x) {
            ran = 0;
            return one == null || !within(act, KEEPS, TELLS) ? 0 : run(one, one.kind, act, x, 0);
        }

        /** Runs the body of a kind, or of the next kind above that has one. */
        private int run(Account one, int kind, int act, int x, int depth) {
            int from = kind;
            for (int i = 0; i < ABOVE.length && bodyOf(from, act) == 0; i++) {
                from = kindAbove(from);
            }
            int body = bodyOf(from, act);
            if (body == 0 || depth > DEEPEST) {
                return 0;
            }
            note(body);
            return runBody(one, body, kindAbove(from), x, depth + 1);
        }

        private int runBody(Account one, int body, int above, int x, int depth) {
            int own = one.kind;
            switch (body) {
                case 10: return x + one.number;
                case 11: return run(one, own, KEEPS, x, depth) - one.v;
                case 12: return run(one, own, POURS, x, depth) * 2;
                case 20: return run(one, above, POURS, x, depth) ^ 6;
                case 30: return run(one, above, KEEPS, x * 3, depth);
                case 40: return run(one, above, TELLS, x, depth) + run(one, own, POURS, 1, depth);
                case 50: return -run(one, above, KEEPS, x, depth);
                case 51: return run(one, above, POURS, x + 1, depth);
                case 60: return run(one, above, TELLS, x - one.number, depth);
                case 70: return run(one, above, POURS, x, depth) + run(one, above, KEEPS, 2, depth);
                case 71: return run(one, above, KEEPS, x, depth) ^ one.v;
                default: return 0;
            }
        }

        private static int bodyOf(int kind, int act) {
            return kind < 0 ? 0 : at(BODIES, kind * 3 + act);
        }

        private void note(int body) {
            if (ran >= 0 && ran < TRACED) {
                bodies[ran] = body;
            }
            ran++;
        }
    }

    /** A row of one sort, or nothing. Its items are kept as longs, cut to what the sort can hold. */
    private static final class Tape {
        private static final int EMPTY = -1;
        private final long[] items = new long[TAPE_ITEMS];
        private int sort = EMPTY;
        private int size;

        boolean isEmpty() {
            return sort == EMPTY;
        }

        int become(int newSort, int n) {
            sort = newSort;
            size = Math.max(0, Math.min(n, TAPE_ITEMS));
            for (int i = 0; i < TAPE_ITEMS; i++) {
                items[i] = 0;
            }
            return 1;
        }

        boolean put(int i, long v) {
            if (i < 0 || i >= size || i >= TAPE_ITEMS) {
                return false;
            }
            items[i] = cut(v);
            return true;
        }

        long get(int i) {
            return i >= 0 && i < size && i < TAPE_ITEMS ? items[i] : NO;
        }

        boolean takeFrom(Tape from, int i, int j, int n) {
            if (n < 0 || i < 0 || j < 0 || n > from.size - i || n > size - j) {
                return false;
            }
            System.arraycopy(from.items, i, items, j, n);
            return true;
        }

        private long cut(long v) {
            switch (sort) {
                case 0: return (byte) v;
                case 1: return (short) v;
                case INTS: return (int) v;
                case LONGS: return v;
                default: return v != 0 ? 1 : 0;
            }
        }
    }
}
