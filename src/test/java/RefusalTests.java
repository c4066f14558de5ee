import java.lang.reflect.Field;
import java.util.function.Supplier;
import java.util.function.ToLongFunction;

/**
 * Every refusal of every call: the numbers next to those that are taken and far ones, on both sides; which of several
 * refusals the call's words name first; and that what is refused changes nothing, THE TEXT and THE IMAGE among it.
 */
public final class RefusalTests {
    private static final Check CHECK = new Check("RefusalTests");
    private static final int NONE = -1, BAD = -2, STATE = -3, FULL = -4;
    private static final int NOTHING = -11, CAST = -12, PLACE = -13, SIZE = -14;
    private static final int FAR = -10000, FARTHER = -100000;
    private static final long NO = Long.MIN_VALUE;
    private static final int MIN = Integer.MIN_VALUE, MAX = Integer.MAX_VALUE;

    private static final int[] NO_ACCOUNT = {-1, 5, 6, MIN, MAX};
    /** Accounts where -1 is not one that is missing, but says that all is empty then. */
    private static final int[] NO_ACCOUNT_BUT_ONE = {-2, 5, 6, MIN, MAX};

    private static Supplier<LakeBooks> town;
    private static String untouched;

    public static void main(String[] args) throws Exception {
        in(Town::made);
        lakeAndAccounts();
        sets();
        texts();
        days();
        whatOneMay();
        seen();
        plansAndBooks();
        hosts();
        tapes();
        shifts();
        in(Town::full);
        whenFull();
        in(Town::texted);
        whenTextIsFull();
        in(LakeBooks::new);
        whenNew();
        lastDay();
        CHECK.end();
    }

    private static void in(Supplier<LakeBooks> other) {
        town = other;
        untouched = Town.whole(other.get());
        CHECK.same("the same town each time", Town.whole(other.get()), untouched);
    }

    private static void refused(String call, long due, ToLongFunction<LakeBooks> asked) {
        LakeBooks x = town.get();
        CHECK.due(call, asked.applyAsLong(x), due);
        CHECK.same(call + " changes nothing", Town.whole(x), untouched);
    }

    private static int[] beside(int least, int most) {
        return new int[] {least - 1, least - 1000, MIN, most + 1, most + 1000, MAX};
    }

    private static void lakeAndAccounts() {
        for (int step : beside(0, 5)) {
            refused("2: area(" + step + ", 5)", NONE, x -> x.area(step, 5));
            refused("2: area(" + step + ", 0), NONE first", NONE, x -> x.area(step, 0));
        }
        for (int n : beside(1, 20)) {
            refused("2: area(0, " + n + ")", BAD, x -> x.area(0, n));
            refused("2: area(5, " + n + ")", BAD, x -> x.area(5, n));
        }
        for (int m : beside(0, 60)) {
            refused("3: volume(" + m + ")", BAD, x -> x.volume(m));
        }
        for (int kind : beside(0, 6)) {
            refused("4: account(" + kind + ", 1, 1)", NONE, x -> x.account(kind, 1, 1));
            refused("4: account(" + kind + ", 10, 31), NONE first", NONE, x -> x.account(kind, 10, 31));
        }
        for (int v : beside(0, 9)) {
            refused("4: account(0, " + v + ", 0)", BAD, x -> x.account(0, v, 0));
            refused("4: account(6, " + v + ", 30)", BAD, x -> x.account(6, v, 30));
        }
        for (int daily : beside(-30, 30)) {
            refused("4: account(0, 0, " + daily + ")", BAD, x -> x.account(0, 0, daily));
            refused("4: account(6, 9, " + daily + ")", BAD, x -> x.account(6, 9, daily));
        }
        for (int account : NO_ACCOUNT) {
            refused("5: of(" + account + ", 0)", FAR + NONE, x -> x.of(account, 0));
            refused("5: of(" + account + ", 7)", FAR + NONE, x -> x.of(account, 7));
            refused("5: of(" + account + ", 8)", FAR + NONE, x -> x.of(account, 8));
        }
        for (int what : beside(0, 7)) {
            refused("5: of(0, " + what + ")", FAR + NONE, x -> x.of(0, what));
        }
        for (int n : beside(0, 9999)) {
            refused("8: water(" + n + ")", BAD, x -> x.water(n));
        }
        for (int what : new int[] {-1, 8, 9, 16, MIN, MAX}) {
            refused("11: told(" + what + ")", NONE, x -> x.told(what));
        }
    }

    private static void sets() {
        for (int account : NO_ACCOUNT) {
            refused("6: set(" + account + ", 1, 0)", FAR + NONE, x -> x.set(account, 1, 0));
            refused("6: set(" + account + ", 1, 31), NONE first", FAR + NONE, x -> x.set(account, 1, 31));
            refused("7: row(" + account + ", 0, 0)", NONE, x -> x.row(account, 0, 0));
            refused("7: row(" + account + ", 0, 10), NONE first", NONE, x -> x.row(account, 0, 10));
        }
        for (int what : beside(0, 2)) {
            refused("6: set(0, " + what + ", 0)", FAR + NONE, x -> x.set(0, what, 0));
            refused("6: set(0, " + what + ", 1000), NONE first", FAR + NONE, x -> x.set(0, what, 1000));
        }
        for (int n : beside(-999, 999)) {
            refused("6: set(0, 0, " + n + ")", FAR + BAD, x -> x.set(0, 0, n));
        }
        for (int n : beside(-30, 30)) {
            refused("6: set(0, 1, " + n + ")", FAR + BAD, x -> x.set(0, 1, n));
        }
        for (int n : beside(0, 20)) {
            refused("6: set(0, 2, " + n + ")", FAR + BAD, x -> x.set(0, 2, n));
            refused("6: set(1, 2, " + n + "), BAD first", FAR + BAD, x -> x.set(1, 2, n));
        }
        for (int account = 1; account < 5; account++) {
            int other = account;
            refused("6: set(" + other + ", 2, 0)", FAR + STATE, x -> x.set(other, 2, 0));
            refused("6: set(" + other + ", 2, 20)", FAR + STATE, x -> x.set(other, 2, 20));
        }
        for (int part : beside(0, 3)) {
            refused("7: row(1, " + part + ", 0)", NONE, x -> x.row(1, part, 0));
            refused("7: row(1, " + part + ", 10), NONE first", NONE, x -> x.row(1, part, 10));
            refused("7: row(0, " + part + ", 0), NONE first", NONE, x -> x.row(0, part, 0));
        }
        for (int n : beside(0, 9)) {
            refused("7: row(1, 0, " + n + ")", BAD, x -> x.row(1, 0, n));
            refused("7: row(0, 0, " + n + "), BAD first", BAD, x -> x.row(0, 0, n));
        }
        for (int account : new int[] {0, 2, 3, 4}) {
            refused("7: row(" + account + ", 0, 0)", STATE, x -> x.row(account, 0, 0));
            refused("7: row(" + account + ", 3, 9)", STATE, x -> x.row(account, 3, 9));
        }
    }

    private static void texts() {
        for (int sign : beside(0, 127)) {
            refused("9: feed(" + sign + ")", BAD, x -> x.feed(sign));
        }
    }

    private static void days() {
        for (int what : new int[] {-1, 3, 9, 15, 16, MIN, MAX}) {
            refused("13: on(0, " + what + ")", FAR + NONE, x -> x.on(0, what));
            refused("13: on(-1, " + what + "), NONE first", FAR + NONE, x -> x.on(-1, what));
        }
        for (int n : beside(0, 40)) {
            refused("13: on(" + n + ", 0)", FAR + BAD, x -> x.on(n, 0));
            refused("13: on(" + n + ", 14)", FAR + BAD, x -> x.on(n, 14));
            refused("15: lowest(" + n + ")", BAD, x -> x.lowest(n));
            refused("23: richest(" + n + ")", BAD, x -> x.richest(n));
        }
        for (int q : beside(0, 999)) {
            refused("16: ruined(" + q + ")", BAD, x -> x.ruined(q));
        }
    }

    private static void whatOneMay() {
        for (int account : NO_ACCOUNT) {
            refused("17: may(" + account + ", 1)", FAR + NONE, x -> x.may(account, 1));
            refused("17: may(" + account + ", 0), NONE first", FAR + NONE, x -> x.may(account, 0));
            refused("18: enough(" + account + ", 0)", NONE, x -> x.enough(account, 0));
            refused("18: enough(" + account + ", 1000), NONE first", NONE, x -> x.enough(account, 1000));
            refused("20: without(" + account + ", 1)", FARTHER + NONE, x -> x.without(account, 1));
            refused("20: without(" + account + ", 0), NONE first", FARTHER + NONE, x -> x.without(account, 0));
            refused("22: share(" + account + ", 1, 0)", NO, x -> x.share(account, 1, 0));
        }
        for (int n : beside(1, 12)) {
            refused("17: may(0, " + n + ")", FAR + BAD, x -> x.may(0, n));
        }
        for (int q : beside(-999, 999)) {
            refused("18: enough(0, " + q + ")", BAD, x -> x.enough(0, q));
        }
        for (int n : beside(1, 40)) {
            refused("20: without(0, " + n + ")", FARTHER + BAD, x -> x.without(0, n));
            refused("22: share(1, " + n + ", 0)", NO, x -> x.share(1, n, 0));
            refused("28: mean(" + n + ", 1)", NO, x -> x.mean(n, 1));
        }
        for (int n : beside(1, 10)) {
            refused("21: wells(" + n + ")", BAD, x -> x.wells(n));
        }
        for (int n : beside(1, 20)) {
            refused("27: odds(" + n + ", 1)", NO, x -> x.odds(n, 1));
        }
        for (int part : beside(0, 1)) {
            refused("22: share(1, 9, " + part + ")", NO, x -> x.share(1, 9, part));
            refused("27: odds(9, " + part + ")", NO, x -> x.odds(9, part));
            refused("28: mean(9, " + part + ")", NO, x -> x.mean(9, part));
        }
    }

    private static void seen() {
        for (int n : new int[] {-2, MIN, 21, 1000, MAX}) {
            refused("24: see(" + n + ", 20)", BAD, x -> x.see(n, 20));
            refused("24: see(" + n + ", 61)", BAD, x -> x.see(n, 61));
        }
        for (int level : beside(0, 60)) {
            refused("24: see(0, " + level + ")", BAD, x -> x.see(0, level));
            refused("24: see(20, " + level + ")", BAD, x -> x.see(20, level));
        }
        for (int account : NO_ACCOUNT) {
            refused("25: hidden(" + account + ", 0)", NONE, x -> x.hidden(account, 0));
        }
        for (int what : beside(0, 1)) {
            refused("25: hidden(0, " + what + ")", NONE, x -> x.hidden(0, what));
            refused("25: hidden(1, " + what + "), NONE first", NONE, x -> x.hidden(1, what));
        }
        for (int account = 1; account < 5; account++) {
            int other = account;
            refused("25: hidden(" + other + ", 0)", STATE, x -> x.hidden(other, 0));
            refused("25: hidden(" + other + ", 1)", STATE, x -> x.hidden(other, 1));
        }
    }

    private static void plansAndBooks() {
        for (int account : NO_ACCOUNT_BUT_ONE) {
            refused("29: plan(" + account + ", 0)", NONE, x -> x.plan(account, 0));
            refused("29: plan(" + account + ", 31), NONE first", NONE, x -> x.plan(account, 31));
            refused("31: book(" + account + ", 0)", NONE, x -> x.book(account, 0));
            refused("31: book(" + account + ", 10000), NONE first", NONE, x -> x.book(account, 10000));
        }
        for (int daily : beside(-30, 30)) {
            refused("29: plan(0, " + daily + ")", BAD, x -> x.plan(0, daily));
        }
        for (int what : beside(0, 1)) {
            refused("30: planned(" + what + ")", NONE, x -> x.planned(what));
        }
        for (int buckets : beside(-9999, 9999)) {
            refused("31: book(0, " + buckets + ")", BAD, x -> x.book(0, buckets));
        }
    }

    private static void hosts() {
        for (int tape : beside(0, 5)) {
            refused("33: judge(" + tape + ", 0)", NONE, x -> x.judge(tape, 0));
            refused("33: judge(" + tape + ", -1)", NONE, x -> x.judge(tape, -1));
        }
        for (int tape : new int[] {0, 1, 3, 4}) {
            refused("33: judge(" + tape + ", 0)", CAST, x -> x.judge(tape, 0));
            refused("33: judge(" + tape + ", -1), CAST first", CAST, x -> x.judge(tape, -1));
            refused("33: judge(" + tape + ", 3), CAST first", CAST, x -> x.judge(tape, 3));
        }
        for (int i : new int[] {-1, MIN, 14, 20, MAX}) {
            refused("37: trace(" + i + ")", NONE, x -> x.trace(i));
        }
        for (int k : beside(0, 6)) {
            refused("38: taken(0, " + k + ")", BAD, x -> x.taken(0, k));
            refused("38: taken(5, " + k + "), BAD first", BAD, x -> x.taken(5, k));
        }
        for (int account : NO_ACCOUNT) {
            refused("38: taken(" + account + ", 0)", NOTHING, x -> x.taken(account, 0));
            refused("38: taken(" + account + ", 6)", NOTHING, x -> x.taken(account, 6));
        }
        refused("38: taken(0, 6)", CAST, x -> x.taken(0, 6));
        refused("38: taken(4, 4), a KIND under its own", CAST, x -> x.taken(4, 4));
        for (int what : beside(0, 6)) {
            refused("39: count(" + what + ")", BAD, x -> x.count(what));
        }
    }

    private static void tapes() {
        for (int tape : beside(0, 5)) {
            refused("40: tape(" + tape + ", 0, 1)", NONE, x -> x.tape(tape, 0, 1));
            refused("40: tape(" + tape + ", -1, 0)", NONE, x -> x.tape(tape, -1, 0));
            refused("40: tape(" + tape + ", 5, -1), NONE first", NONE, x -> x.tape(tape, 5, -1));
            refused("41: item(" + tape + ", 0, 1)", NONE, x -> x.item(tape, 0, 1));
            refused("41: item(" + tape + ", -1, 1), NONE first", NONE, x -> x.item(tape, -1, 1));
            refused("42: read(" + tape + ", 0)", NO, x -> x.read(tape, 0));
        }
        for (int sort : new int[] {-2, MIN, 5, MAX}) {
            refused("40: tape(1, " + sort + ", 1)", BAD, x -> x.tape(1, sort, 1));
            refused("40: tape(1, " + sort + ", -1), BAD first", BAD, x -> x.tape(1, sort, -1));
        }
        for (int sort = 0; sort <= 4; sort++) {
            int one = sort;
            refused("40: tape(1, " + sort + ", 61)", BAD, x -> x.tape(1, one, 61));
            refused("40: tape(1, " + sort + ", MAX)", BAD, x -> x.tape(1, one, MAX));
            refused("40: tape(1, " + sort + ", -1)", SIZE, x -> x.tape(1, one, -1));
            refused("40: tape(1, " + sort + ", MIN)", SIZE, x -> x.tape(1, one, MIN));
            for (int i : beside(0, 2)) {
                refused("41: item(" + sort + ", " + i + ", 1)", PLACE, x -> x.item(one, i, 1));
                refused("42: read(" + sort + ", " + i + ")", NO, x -> x.read(one, i));
            }
        }
        for (int i : new int[] {-1, 0, 1, MIN, MAX}) {
            refused("41: item(5, " + i + ", 1)", NOTHING, x -> x.item(5, i, 1));
            refused("42: read(5, " + i + ")", NO, x -> x.read(5, i));
        }
    }

    private static void shifts() {
        for (int tape : beside(0, 5)) {
            refused("43: shift(" + tape + ", 0, 0, 0, 1)", NONE, x -> x.shift(tape, 0, 0, 0, 1));
            refused("43: shift(0, 0, " + tape + ", 0, 1)", NONE, x -> x.shift(0, 0, tape, 0, 1));
            refused("43: shift(" + tape + ", 0, 5, 0, 1), NONE first", NONE, x -> x.shift(tape, 0, 5, 0, 1));
            refused("43: shift(5, 0, " + tape + ", 0, 1), NONE first", NONE, x -> x.shift(5, 0, tape, 0, 1));
            refused("43: shift(0, -1, " + tape + ", 0, 1), NONE first", NONE, x -> x.shift(0, -1, tape, 0, 1));
        }
        refused("43: from one that holds nothing", NOTHING, x -> x.shift(5, 0, 2, 0, 1));
        refused("43: to one that holds nothing", NOTHING, x -> x.shift(2, 0, 5, 0, 1));
        refused("43: none of one that holds nothing", NOTHING, x -> x.shift(5, 0, 5, 0, 0));
        refused("43: nothing, NOTHING ahead of PLACE", NOTHING, x -> x.shift(2, -1, 5, 0, -1));
        for (int from = 0; from <= 4; from++) {
            int one = from;
            for (int to = 0; to <= 4; to++) {
                int other = to;
                if (one != other) {
                    refused("43: from sort " + one + " to " + other, CAST, x -> x.shift(one, 0, other, 0, 1));
                    refused("43: none from sort " + one + " to " + other, CAST, x -> x.shift(one, 0, other, 0, 0));
                    refused("43: CAST ahead of PLACE", CAST, x -> x.shift(one, -1, other, 4, -1));
                }
            }
            int[][] places = {{-1, 0, 1}, {0, -1, 1}, {0, 0, -1}, {MIN, 0, 0}, {0, MIN, 0}, {0, 0, MIN}, {4, 0, 0},
                {0, 4, 0}, {0, 0, 4}, {1, 0, 3}, {0, 1, 3}, {3, 0, 1}, {0, 3, 1}, {MAX, 0, 0}, {0, MAX, 0},
                {0, 0, MAX}, {MAX, 0, MAX}, {0, MAX, MAX}, {MAX, MAX, MAX}, {1, 2, MAX}, {-1, 0, 0}, {0, -1, 0}};
            for (int[] p : places) {
                refused("43: shift(" + one + ", " + p[0] + ", " + one + ", " + p[1] + ", " + p[2] + ")", PLACE,
                    x -> x.shift(one, p[0], one, p[1], p[2]));
            }
        }
    }

    private static void whenFull() {
        refused("4: a seventh account", FULL, x -> x.account(0, 0, 0));
        refused("4: a seventh account of KIND 7, NONE first", NONE, x -> x.account(7, 10, 31));
        refused("4: a seventh account with v 10, BAD first", BAD, x -> x.account(0, 10, 0));
        refused("4: a seventh account with DAILY 31, BAD first", BAD, x -> x.account(0, 0, 31));
        refused("4: account 6", FAR + NONE, x -> x.of(6, 0));
        refused("10: a seventh law", FULL, x -> x.law());
        refused("24: a fifth", FULL, x -> x.see(0, 0));
        refused("24: a fifth behind 21, BAD first", BAD, x -> x.see(21, 0));
        refused("24: a fifth of 61, BAD first", BAD, x -> x.see(0, 61));
        refused("29: a ninth row", FULL, x -> x.plan(0, 0));
        refused("29: a ninth row of account 6, NONE first", NONE, x -> x.plan(6, 31));
        refused("29: a ninth row with DAILY -31, BAD first", BAD, x -> x.plan(0, -31));
        refused("31: a ninth row", FULL, x -> x.book(0, 0));
        refused("31: a ninth row of account 6, NONE first", NONE, x -> x.book(6, 10000));
        refused("31: a ninth row with BUCKETS -10000, BAD first", BAD, x -> x.book(0, -10000));
        refused("41: item 60 of 60", PLACE, x -> x.item(0, 60, 1));
        refused("42: item 60 of 60", NO, x -> x.read(0, 60));
        refused("43: 61 of 60", PLACE, x -> x.shift(0, 0, 1, 0, 61));
        refused("33: none behind the end", 100, x -> x.judge(0, 60));
        refused("33: none ahead of the first", 100, x -> x.judge(0, -1));
    }

    private static void whenTextIsFull() {
        refused("9: a 101st sign", FULL, x -> x.feed(';'));
        refused("9: a 101st sign that is 0", FULL, x -> x.feed(0));
        refused("9: a 101st sign that is 128, BAD first", BAD, x -> x.feed(128));
        refused("9: a 101st sign that is -1, BAD first", BAD, x -> x.feed(-1));
        LakeBooks x = town.get();
        CHECK.due("9: THE TEXT has 100", x.count(5), 100);
        CHECK.due("10: it is a law", x.law(), 0);
        CHECK.due("10: to its last byte", x.of(0, 7), 33);
    }

    private static void whenNew() {
        refused("35: no image", STATE, x -> x.undo());
        refused("5: no account", FAR + NONE, x -> x.of(0, 0));
        refused("6: no account", FAR + NONE, x -> x.set(0, 0, 0));
        refused("7: no account", NONE, x -> x.row(0, 0, 0));
        refused("13: no account", FAR + NONE, x -> x.on(0, 10));
        refused("17: no account", FAR + NONE, x -> x.may(0, 1));
        refused("18: no account", NONE, x -> x.enough(0, 0));
        refused("20: no account", FARTHER + NONE, x -> x.without(0, 1));
        refused("22: no account", NO, x -> x.share(0, 1, 0));
        refused("25: no account", NONE, x -> x.hidden(0, 0));
        refused("29: no account", NONE, x -> x.plan(0, 0));
        refused("31: no account", NONE, x -> x.book(0, 0));
        refused("37: no act", NONE, x -> x.trace(0));
        refused("38: no account", NOTHING, x -> x.taken(0, 0));
        for (int tape = 0; tape < 6; tape++) {
            int one = tape;
            refused("41: it holds nothing", NOTHING, x -> x.item(one, 0, 0));
            refused("42: it holds nothing", NO, x -> x.read(one, 0));
            refused("43: it holds nothing", NOTHING, x -> x.shift(one, 0, one, 0, 0));
        }
        LakeBooks x = new LakeBooks();
        CHECK.due("36: no account", x.act(0, 0, 7), 0);
    }

    /** No run of 512 calls gets there, so the test puts the day itself. */
    private static void lastDay() throws Exception {
        LakeBooks x = Town.made();
        Field now = LakeBooks.class.getDeclaredField("now");
        now.setAccessible(true);
        Field day = now.get(x).getClass().getDeclaredField("day");
        day.setAccessible(true);
        day.setInt(now.get(x), 9999);
        String before = Town.seen(x);
        CHECK.due("12: day() when DAY is 9999", x.day(), STATE);
        CHECK.same("12: it changes nothing", Town.seen(x), before);
        day.setInt(now.get(x), 9998);
        CHECK.holds("12: day() when DAY is 9998", x.day() >= 0);
        CHECK.due("12: DAY", x.told(0), 9999);
    }
}
