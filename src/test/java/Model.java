import java.math.BigInteger;
import java.util.ArrayList;
import java.util.Arrays;
import java.util.List;
import java.util.function.Predicate;
import java.util.regex.Matcher;
import java.util.regex.Pattern;

/**
 * The document said a second time, in another way: laws by a regular expression and by cutting texts,
 * bodies by Java's own super, everything asked by copies. ModelTests compare LakeBooks with it.
 */
final class Model {
    static final long NO = Long.MIN_VALUE;

    // ---- kinds and acts, told by Java's own classes

    static class Plain implements Cloneable {
        int i, v, buckets, daily, stones;
        int[] row = new int[4];
        List<Integer> ran;

        int kind() { return 0; }
        int keeps(int x) { ran.add(10); return x + i; }
        int pours(int x) { ran.add(11); return keeps(x) - v; }
        int tells(int x) { ran.add(12); return pours(x) * 2; }
        int lifts() { return 0; }
        int pouring(World w) { return daily; }

        Plain copy() {
            try {
                Plain other = (Plain) clone();
                other.row = row.clone();
                return other;
            } catch (CloneNotSupportedException e) {
                throw new AssertionError(e);
            }
        }
    }

    static class Saving extends Plain {
        @Override int kind() { return 1; }
        @Override int pours(int x) { ran.add(20); return super.pours(x) ^ 6; }
        @Override int pouring(World w) { return buckets > 0 ? daily + buckets * w.rate() / 100 : daily; }
    }

    static class Lending extends Plain {
        @Override int kind() { return 2; }
        @Override int keeps(int x) { ran.add(30); return super.keeps(x * 3); }
        @Override int pouring(World w) { return daily - v; }
    }

    static class Swimming extends Plain {
        @Override int kind() { return 3; }
        @Override int tells(int x) { ran.add(40); return super.tells(x) + pours(1); }
        @Override int lifts() { return v; }
    }

    static class Stony extends Saving {
        @Override int kind() { return 4; }
        @Override int keeps(int x) { ran.add(50); return -super.keeps(x); }
        @Override int pours(int x) { ran.add(51); return super.pours(x + 1); }
        @Override int lifts() { return 5 * stones; }
    }

    static class Leaking extends Lending {
        @Override int kind() { return 5; }
        @Override int tells(int x) { ran.add(60); return super.tells(x - i); }
        @Override int pouring(World w) { return super.pouring(w) - (w.level() > 30 ? 1 : 0); }
    }

    static class Told extends Swimming {
        @Override int kind() { return 6; }
        @Override int pours(int x) { ran.add(70); return super.pours(x) + super.keeps(2); }
        @Override int keeps(int x) { ran.add(71); return super.keeps(x) ^ v; }
        @Override int pouring(World w) { return super.pouring(w) + row[w.day % 4]; }
    }

    static final Class<?>[] KINDS = {
        Plain.class, Saving.class, Lending.class, Swimming.class, Stony.class, Leaking.class, Told.class};

    static Plain make(int kind) {
        switch (kind) {
            case 0: return new Plain();
            case 1: return new Saving();
            case 2: return new Lending();
            case 3: return new Swimming();
            case 4: return new Stony();
            case 5: return new Leaking();
            default: return new Told();
        }
    }

    // ---- laws, as texts

    static final Pattern LAW = Pattern.compile(lawPattern());

    static String lawPattern() {
        String factor = "[dmlakb][<=>][0-9]{1,2}";
        String either = factor + "([&|]" + factor + ")*";
        for (int nest = 0; nest < 4; nest++) {
            factor = "([dmlakb][<=>][0-9]{1,2}|!" + factor + "|\\(" + either + "\\))";
            either = factor + "([&|]" + factor + ")*";
        }
        String clause = "((spring|sun) [0-9]{1,2} " + either + "|(mark|floor|rate) [0-9]{1,2})";
        return clause + "(;" + clause + "){0,9}";
    }

    /** -1: the text is a law. */
    static int fault(String text) {
        if (LAW.matcher(text).matches()) {
            return -1;
        }
        for (int end = 1; end <= text.length(); end++) {
            Matcher matcher = LAW.matcher(text.substring(0, end));
            if (!matcher.matches() && !matcher.hitEnd()) {
                return end - 1;
            }
        }
        return text.length();
    }

    static List<String> cut(String text, char at) {
        List<String> parts = new ArrayList<>();
        int depth = 0, from = 0;
        for (int i = 0; i < text.length(); i++) {
            char c = text.charAt(i);
            depth += c == '(' ? 1 : c == ')' ? -1 : 0;
            if (c == at && depth == 0) {
                parts.add(text.substring(from, i));
                from = i + 1;
            }
        }
        parts.add(text.substring(from));
        return parts;
    }

    static boolean either(String text, World w, Plain one) {
        return cut(text, '|').stream().anyMatch(part -> cut(part, '&').stream().allMatch(f -> factor(f, w, one)));
    }

    static boolean factor(String text, World w, Plain one) {
        if (text.startsWith("!")) {
            return !factor(text.substring(1), w, one);
        }
        if (text.startsWith("(")) {
            return either(text.substring(1, text.length() - 1), w, one);
        }
        int number = Integer.parseInt(text.substring(2));
        int value;
        switch (text.charAt(0)) {
            case 'd': value = w.day % 10; break;
            case 'm': value = Math.min(99, w.day / 10); break;
            case 'l': value = w.level(); break;
            case 'a': value = one == null ? 9 : one.i; break;
            case 'k': value = one == null ? 9 : one.kind(); break;
            default: value = one == null ? 9 : one.buckets / 10; break;
        }
        switch (text.charAt(1)) {
            case '<': return value < number;
            case '=': return value == number;
            default: return value > number;
        }
    }

    // ---- how all is

    static final class World {
        int[] areas = {10, 10, 10, 10, 10, 10};
        List<Plain> accounts = new ArrayList<>();
        int water = 200, town, day;
        List<int[]> seen = new ArrayList<>(), plan = new ArrayList<>(), book = new ArrayList<>();
        String law = "";
        int gone = -1;

        World copy() {
            World other = new World();
            other.areas = areas.clone();
            accounts.forEach(one -> other.accounts.add(one.copy()));
            other.water = water;
            other.town = town;
            other.day = day;
            other.seen.addAll(seen);
            other.plan.addAll(plan);
            other.book.addAll(book);
            other.law = law;
            other.gone = gone;
            return other;
        }

        int volume(int marks) {
            int sum = 0;
            for (int m = 0; m < marks; m++) {
                sum += areas[m / 10];
            }
            return sum;
        }

        int levelOf(int buckets) {
            int best = 0;
            for (int m = 0; m <= 60; m++) {
                best = volume(m) <= buckets ? m : best;
            }
            return best;
        }

        int level() {
            return levelOf(water + accounts.stream().filter(one -> one.i != gone).mapToInt(Plain::lifts).sum());
        }

        int last(String word, int without) {
            int n = without;
            for (String clause : law.isEmpty() ? List.<String>of() : cut(law, ';')) {
                n = clause.startsWith(word) ? Integer.parseInt(clause.substring(word.length() + 1)) : n;
            }
            return n;
        }

        int mark() { return Math.min(60, last("mark", 50)); }
        int floor() { return Math.min(60, last("floor", 5)); }
        int rate() { return last("rate", 0); }

        int sum(String word, Plain one) {
            int sum = 0;
            for (String clause : law.isEmpty() ? List.<String>of() : cut(law, ';')) {
                String[] parts = clause.split(" ");
                if (parts[0].equals(word) && either(parts[2], this, one)) {
                    sum += Integer.parseInt(parts[1]);
                }
            }
            return sum;
        }

        int spring() { return 5 + sum("spring", null); }
        int sun(Plain one) { return one.i == gone ? 0 : sum("sun", one); }
        int pours(Plain one) { return one.i == gone ? 0 : one.pouring(this); }
        boolean dry() { return level() <= floor(); }

        /** A day with a change of spring, or without spring at all; answers what each was charged. */
        int[] go(int more, boolean springless) {
            int[] pours = accounts.stream().mapToInt(this::pours).toArray();
            int[] suns = accounts.stream().mapToInt(this::sun).toArray();
            int spring = springless ? 0 : spring() + more;
            for (Plain one : accounts) {
                int p = pours[one.i];
                if (p < 0) {
                    int above = water - volume(floor());
                    p = above <= 0 ? 0 : -p > above ? -above : p;
                }
                water += p;
                one.buckets += p;
            }
            for (Plain one : accounts) {
                one.buckets -= suns[one.i];
                water = water < suns[one.i] ? 0 : water - suns[one.i];
            }
            water += spring;
            int most = volume(mark());
            if (water > most) {
                town += water - most;
                water = most;
            }
            town = Math.min(town, 99999);
            for (Plain one : accounts) {
                one.buckets = one.buckets > 9999 ? 9999 : one.buckets < -9999 ? -9999 : one.buckets;
            }
            day++;
            return suns;
        }

        World on(int n) {
            World w = copy();
            for (int d = 0; d < n; d++) {
                w.go(0, false);
            }
            return w;
        }

        World without(int account) {
            World w = copy();
            w.gone = account;
            return w;
        }

        boolean asSeen() {
            return seen.stream().allMatch(row -> on(row[0]).level() == row[1]);
        }

        int fewest(int most, Predicate<World> so) {
            World w = copy();
            for (int d = 0; d <= most; d++) {
                if (so.test(w)) {
                    return d;
                }
                w.go(0, false);
            }
            return -5;
        }

        boolean wet(int n, int more, int springless) {
            World w = copy();
            boolean wet = true;
            for (int d = 1; d <= n; d++) {
                w.go(more, d == springless);
                wet &= !w.dry();
            }
            return wet;
        }
    }

    World now = new World(), image;
    StringBuilder text = new StringBuilder();
    int laws;
    List<Integer> ran = new ArrayList<>();
    Object[] tapes = new Object[6];

    Plain find(int account) {
        return account >= 0 && account < now.accounts.size() ? now.accounts.get(account) : null;
    }

    static boolean out(int n, int least, int most) {
        return n < least || n > most;
    }

    public int area(int step, int n) {
        if (out(step, 0, 5)) return -1;
        if (out(n, 1, 20)) return -2;
        int was = now.areas[step];
        now.areas[step] = n;
        return was;
    }

    public int volume(int m) {
        return out(m, 0, 60) ? -2 : now.volume(m);
    }

    public int account(int kind, int v, int daily) {
        if (out(kind, 0, 6)) return -1;
        if (out(v, 0, 9) || out(daily, -30, 30)) return -2;
        if (now.accounts.size() == 6) return -4;
        Plain one = make(kind);
        one.v = v;
        one.daily = daily;
        one.i = now.accounts.size();
        now.accounts.add(one);
        return one.i;
    }

    public int of(int account, int what) {
        Plain one = find(account);
        if (one == null || out(what, 0, 7)) return -10001;
        return new int[] {one.kind(), one.v, one.buckets, one.daily, one.stones, one.lifts(), now.pours(one),
            now.sun(one)}[what];
    }

    public int set(int account, int what, int n) {
        Plain one = find(account);
        if (one == null || out(what, 0, 2)) return -10001;
        int[][] ranges = {{-999, 999}, {-30, 30}, {0, 20}};
        if (out(n, ranges[what][0], ranges[what][1])) return -10002;
        if (what == 2 && !(one instanceof Stony)) return -10003;
        int was = new int[] {one.buckets, one.daily, one.stones}[what];
        if (what == 0) one.buckets = n;
        if (what == 1) one.daily = n;
        if (what == 2) one.stones = n;
        return was;
    }

    public int row(int account, int part, int n) {
        Plain one = find(account);
        if (one == null || out(part, 0, 3)) return -1;
        if (out(n, 0, 9)) return -2;
        if (!(one instanceof Told)) return -3;
        int was = one.row[part];
        one.row[part] = n;
        return was;
    }

    public int water(int n) {
        if (out(n, 0, 9999)) return -2;
        int was = now.water;
        now.water = n;
        return was;
    }

    public int feed(int sign) {
        if (out(sign, 0, 127)) return -2;
        if (text.length() == 100) return -4;
        return text.append((char) sign).length();
    }

    public int law() {
        if (laws == 6) return -4;
        String read = text.toString();
        text = new StringBuilder();
        int fault = fault(read);
        if (fault >= 0) return -10 - fault;
        now.law = read;
        return laws++;
    }

    public int told(int what) {
        if (out(what, 0, 15) || what == 8 || what == 9) return -1;
        if (what >= 10) return now.areas[what - 10];
        return new int[] {now.day, now.water, now.town, now.level(), now.mark(), now.floor(), now.rate(),
            now.spring()}[what];
    }

    public int day() {
        if (now.day == 9999) return -3;
        now.go(0, false);
        return now.level();
    }

    public int on(int n, int what) {
        if (out(what, 0, 2) && (out(what, 10, 15) || find(what - 10) == null)) return -10001;
        if (out(n, 0, 40)) return -10002;
        World w = now.on(n);
        return what == 0 ? w.water : what == 1 ? w.level() : what == 2 ? w.town : w.accounts.get(what - 10).buckets;
    }

    public int dry() {
        return now.fewest(60, World::dry);
    }

    public int lowest(int n) {
        if (out(n, 0, 40)) return -2;
        int best = 0;
        for (int d = 0; d <= n; d++) {
            best = now.on(d).level() < now.on(best).level() ? d : best;
        }
        return best;
    }

    public int ruined(int q) {
        if (out(q, 0, 999)) return -2;
        int days = now.fewest(60, w -> w.accounts.stream().anyMatch(one -> one.buckets < -q));
        return days < 0 ? -5 : now.on(days).accounts.stream().filter(one -> one.buckets < -q).findFirst().get().i;
    }

    public int may(int account, int n) {
        if (find(account) == null) return -10001;
        if (out(n, 1, 12)) return -10002;
        for (int daily = -30; daily <= 30; daily++) {
            World w = now.copy();
            w.accounts.get(account).daily = daily;
            if (w.wet(n, 0, 0)) return daily;
        }
        return -5000;
    }

    public int enough(int account, int q) {
        if (find(account) == null) return -1;
        if (out(q, -999, 999)) return -2;
        return now.fewest(60, w -> w.accounts.get(account).buckets >= q);
    }

    public int lifted() {
        return now.level() - now.levelOf(now.water);
    }

    public int without(int account, int n) {
        if (find(account) == null) return -100001;
        if (out(n, 1, 40)) return -100002;
        return now.on(n).water - now.without(account).on(n).water;
    }

    public int wells(int n) {
        if (out(n, 1, 10)) return -2;
        for (int more = 0; more <= 99; more++) {
            if (now.wet(n, more, 0)) return more;
        }
        return -5;
    }

    static long fraction(long above, long below, int part) {
        if (below == 0) return NO;
        BigInteger a = BigInteger.valueOf(above), b = BigInteger.valueOf(below);
        return (part == 0 ? a : b).divide(a.gcd(b)).longValue();
    }

    public long share(int account, int n, int part) {
        if (find(account) == null || out(n, 1, 40) || out(part, 0, 1)) return NO;
        World w = now.copy();
        long own = 0, all = 0;
        for (int d = 0; d < n; d++) {
            int[] suns = w.go(0, false);
            own += suns[account];
            all += Arrays.stream(suns).sum();
        }
        return fraction(own, all, part);
    }

    public int richest(int n) {
        if (out(n, 0, 40)) return -2;
        int best = -5, most = 0;
        for (Plain one : now.on(n).accounts) {
            if (best < 0 || one.buckets > most) {
                best = one.i;
                most = one.buckets;
            }
        }
        return best;
    }

    static int put(List<int[]> rows, int most, int a, int b) {
        if (rows.size() == most) return -4;
        rows.add(new int[] {a, b});
        return rows.size();
    }

    public int see(int n, int level) {
        if (n == -1) {
            now.seen.clear();
            return 0;
        }
        return out(n, 0, 20) || out(level, 0, 60) ? -2 : put(now.seen, 4, n, level);
    }

    public int hidden(int account, int what) {
        if (find(account) == null || out(what, 0, 1)) return -1;
        if (!(find(account) instanceof Stony)) return -3;
        List<Integer> so = new ArrayList<>();
        for (int stones = 0; stones <= 20; stones++) {
            World w = now.copy();
            w.accounts.get(account).stones = stones;
            if (w.asSeen()) so.add(stones);
        }
        return what == 0 ? so.size() : so.isEmpty() ? -5 : so.get(0);
    }

    public int whose() {
        int bits = 0;
        for (Plain one : now.accounts) {
            bits += now.without(one.i).asSeen() ? 1 << one.i : 0;
        }
        return bits;
    }

    public long odds(int n, int part) {
        if (out(n, 1, 20) || out(part, 0, 1)) return NO;
        int dry = 0;
        for (int d = 1; d <= n; d++) {
            dry += now.wet(n, 0, d) ? 0 : 1;
        }
        return fraction(dry, n, part);
    }

    public long mean(int n, int part) {
        if (out(n, 1, 40) || out(part, 0, 1)) return NO;
        long sum = 0;
        for (int d = 1; d <= n; d++) {
            sum += now.on(d).level();
        }
        return fraction(sum, n, part);
    }

    public int plan(int account, int daily) {
        if (account == -1) {
            now.plan.clear();
            return 0;
        }
        if (find(account) == null) return -1;
        return out(daily, -30, 30) ? -2 : put(now.plan, 8, account, daily);
    }

    public int planned(int what) {
        if (out(what, 0, 1)) return -1;
        World w = now.copy();
        for (int[] row : now.plan) {
            w.accounts.get(row[0]).daily = row[1];
            w.go(0, false);
        }
        return what == 0 ? w.water : w.level();
    }

    public int book(int account, int buckets) {
        if (account == -1) {
            now.book.clear();
            return 0;
        }
        if (find(account) == null) return -1;
        return out(buckets, -9999, 9999) ? -2 : put(now.book, 8, account, buckets);
    }

    public int looked() {
        for (int[] row : now.book) {
            if (find(row[0]).buckets != row[1]) return now.book.indexOf(row);
        }
        return -5;
    }

    public int judge(int tape, int i) {
        if (out(tape, 0, 5)) return -1;
        if (tapes[tape] != null && !(tapes[tape] instanceof int[])) return -12;
        int[] row = tapes[tape] == null ? new int[0] : (int[]) tapes[tape];
        for (Plain one : now.accounts) {
            long place = (long) i + one.i;
            if (i < 0 || place >= row.length) return 100 + one.i;
            if (row[(int) place] != one.buckets) return one.i;
        }
        return -5;
    }

    public int image() {
        image = now.copy();
        return now.accounts.size();
    }

    public int undo() {
        if (image == null) return -3;
        now = image.copy();
        return now.accounts.size();
    }

    public int act(int account, int act, int x) {
        ran.clear();
        Plain one = find(account);
        if (one == null || out(act, 0, 2)) return 0;
        one.ran = ran;
        return act == 0 ? one.keeps(x) : act == 1 ? one.pours(x) : one.tells(x);
    }

    public int trace(int i) {
        return out(i, 0, Math.min(20, ran.size()) - 1) ? -1 : ran.get(i);
    }

    public int taken(int account, int k) {
        if (out(k, 0, 6)) return -2;
        Plain one = find(account);
        if (one == null) return -11;
        return KINDS[k].isInstance(one) ? one.kind() : -12;
    }

    public int count(int what) {
        if (out(what, 0, 6)) return -2;
        return new int[] {now.accounts.size(), laws, now.seen.size(), now.plan.size(), now.book.size(),
            text.length(), ran.size()}[what];
    }

    static int length(Object tape) {
        return java.lang.reflect.Array.getLength(tape);
    }

    public int tape(int tape, int sort, int n) {
        if (out(tape, 0, 5)) return -1;
        if (sort == -1) {
            tapes[tape] = null;
            return 1;
        }
        if (out(sort, 0, 4) || n > 60) return -2;
        if (n < 0) return -14;
        tapes[tape] = new Object[] {new byte[n], new short[n], new int[n], new long[n], new boolean[n]}[sort];
        return 1;
    }

    public int item(int tape, int i, long v) {
        if (out(tape, 0, 5)) return -1;
        Object row = tapes[tape];
        if (row == null) return -11;
        if (out(i, 0, length(row) - 1)) return -13;
        if (row instanceof byte[]) ((byte[]) row)[i] = (byte) v;
        if (row instanceof short[]) ((short[]) row)[i] = (short) v;
        if (row instanceof int[]) ((int[]) row)[i] = (int) v;
        if (row instanceof long[]) ((long[]) row)[i] = v;
        if (row instanceof boolean[]) ((boolean[]) row)[i] = v != 0;
        return 1;
    }

    public long read(int tape, int i) {
        if (out(tape, 0, 5) || tapes[tape] == null || out(i, 0, length(tapes[tape]) - 1)) return NO;
        Object row = tapes[tape];
        return row instanceof boolean[] ? ((boolean[]) row)[i] ? 1 : 0 : java.lang.reflect.Array.getLong(row, i);
    }

    public int shift(int tape, int i, int other, int j, int n) {
        if (out(tape, 0, 5) || out(other, 0, 5)) return -1;
        if (tapes[tape] == null || tapes[other] == null) return -11;
        try {
            System.arraycopy(tapes[tape], i, tapes[other], j, n);
            return n;
        } catch (ArrayStoreException e) {
            return -12;
        } catch (IndexOutOfBoundsException e) {
            return -13;
        }
    }
}
