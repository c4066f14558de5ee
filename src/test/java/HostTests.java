/** Promises 33 to 43: judging, the image, acts, tapes. */
public final class HostTests {
    private static final Check CHECK = new Check("HostTests");
    private static final long NO = LakeBooks.NO;

    private static void due(String call, long got, long want) {
        CHECK.due(call, got, want);
    }

    public static void main(String[] args) {
        promise33();
        promise34();
        promise35();
        promise36();
        promise36Wraps();
        promise37();
        promise38();
        promise39();
        promise40();
        promise41();
        promise42();
        promise43();
        CHECK.end();
    }

    private static LakeBooks threeAccounts() {
        LakeBooks x = new LakeBooks();
        for (int a = 0; a < 3; a++) {
            x.account(a, 0, 0);
            x.set(a, 0, 10 * a - 10);
        }
        return x;
    }

    private static void promise33() {
        LakeBooks x = threeAccounts();
        due("33: judge(-1, 0)", x.judge(-1, 0), -1);
        due("33: judge(6, 0)", x.judge(6, 0), -1);
        due("33: the tape holds nothing", x.judge(0, 0), 100);
        x.tape(0, 2, 5);
        for (int i = 0; i < 3; i++) {
            x.item(0, i + 2, 10 * i - 10);
        }
        String before = Check.standing(x);
        due("33: none", x.judge(0, 2), -5);
        due("33: the first", x.judge(0, 1), 0);
        due("33: below 0", x.judge(0, -1), 100);
        due("33: below 0", x.judge(0, Integer.MIN_VALUE), 100);
        due("33: at the end", x.judge(0, 5), 100);
        due("33: beyond the end", x.judge(0, Integer.MAX_VALUE), 100);
        CHECK.holds("33: what is asked changes nothing", Check.standing(x).equals(before));
        x.tape(3, 2, 3);
        due("33: from the first on", x.shift(0, 2, 3, 0, 3), 3);
        due("33: from the first on", x.judge(3, 0), -5);
        x.item(0, 3, -10);
        x.item(0, 4, 0);
        due("33: ends behind two", x.judge(0, 3), 102);
        due("33: the second", x.judge(0, 2), 1);
        x.item(0, 4, -10);
        due("33: ends behind one", x.judge(0, 4), 101);
        x.set(2, 0, 11);
        x.item(0, 3, 0);
        x.item(0, 4, 10);
        due("33: the third", x.judge(0, 2), 2);
        for (int sort : new int[] {0, 1, 3, 4}) {
            x.tape(1, sort, 9);
            due("33: another sort", x.judge(1, 0), -12);
            due("33: another sort, below 0", x.judge(1, -1), -12);
        }
        LakeBooks y = new LakeBooks();
        due("33: none to look at, the tape holds nothing", y.judge(0, -1), -5);
        y.tape(0, 2, 0);
        due("33: none to look at", y.judge(0, 7), -5);
        y.tape(0, 1, 0);
        due("33: none to look at, CAST first", y.judge(0, 0), -12);
    }

    private static void promise34() {
        LakeBooks x = new LakeBooks();
        due("34: image()", x.image(), 0);
        x.account(0, 0, 0);
        x.account(0, 0, 0);
        String before = Check.standing(x);
        due("34: image()", x.image(), 2);
        CHECK.holds("34: the image changes nothing", Check.standing(x).equals(before));
        x.account(0, 0, 0);
        due("34: image() again", x.image(), 3);
        x.water(3);
        due("34: the latest one", x.undo(), 3);
        due("34: the latest one", x.told(1), 200);
    }

    private static void promise35() {
        LakeBooks x = new LakeBooks();
        due("35: there is none", x.undo(), -3);
        x.account(6, 3, 2);
        x.account(4, 3, 2);
        x.row(0, 0, 5);
        x.set(1, 2, 2);
        Check.law(x, "mark 40;rate 3");
        x.see(1, 21);
        x.plan(0, 4);
        x.book(1, 0);
        x.day();
        x.image();
        String before = Check.standing(x);
        int hidden = x.hidden(1, 0), row = x.on(4, 10);
        x.area(2, 19);
        x.water(999);
        x.account(3, 9, 9);
        x.set(0, 0, 77);
        x.set(1, 1, -9);
        x.set(1, 2, 17);
        x.row(0, 0, 1);
        x.row(0, 2, 9);
        due("35: another law", Check.law(x, "mark 20;sun 3 a=0"), 1);
        x.see(-1, 0);
        x.see(2, 2);
        x.plan(0, 5);
        x.book(-1, 0);
        x.day();
        x.day();
        x.feed('m');
        x.tape(0, 2, 3);
        due("35: undo()", x.undo(), 2);
        due("35: LAWS are not undone", x.count(1), 2);
        due("35: THE TEXT is not undone", x.count(5), 1);
        due("35: TAPES are not undone", x.read(0, 2), 0);
        Check.law(x, "");
        LakeBooks y = new LakeBooks();
        due("35: the law that held", x.told(4), 40);
        due("35: the third account is gone", x.of(2, 0), -10001);
        due("35: AREA", x.told(12), 10);
        due("35: ROW", x.on(4, 10), row);
        due("35: ROW for 0", x.row(0, 0, 5), 5);
        due("35: ROW for 2", x.row(0, 2, 0), 0);
        due("35: SEEN", x.hidden(1, 0), hidden);
        due("35: PLAN", x.count(3), 1);
        due("35: BOOK", x.count(4), 1);
        String[] was = before.split(" "), is = Check.standing(x).split(" ");
        for (int i = 0; i < was.length; i++) {
            // The laws' count is not theirs that hold.
            if (i != 16 + 48 + 1) {
                due("35: standing " + i, Long.parseLong(is[i]), Long.parseLong(was[i]));
            }
        }
        x.day();
        due("35: undo() again", x.undo(), 2);
        due("35: DAY", x.told(0), 1);
        due("35: an account anew", x.account(6, 1, 1), 2);
        due("35: its ROW", x.of(2, 6), 1);
        due("35: its BUCKETS", x.of(2, 2), 0);
        y.image();
        Check.law(y, "mark 9");
        y.undo();
        due("35: no law held", y.told(4), 50);
        due("35: the next law's number", Check.law(y, "mark 8"), 1);
    }

    private static final int[][][] ACTS = {
        {{5, 10}, {2, 11, 10}, {4, 12, 11, 10}},
        {{6, 10}, {5, 20, 11, 10}, {10, 12, 20, 11, 10}},
        {{17, 30, 10}, {14, 11, 30, 10}, {28, 12, 11, 30, 10}},
        {{8, 10}, {5, 11, 10}, {11, 40, 12, 11, 10, 11, 10}},
        {{-9, 50, 10}, {-11, 51, 20, 11, 50, 10}, {-22, 12, 51, 20, 11, 50, 10}},
        {{20, 30, 10}, {17, 11, 30, 10}, {4, 60, 12, 11, 30, 10}},
    };

    private static void promise36() {
        LakeBooks x = new LakeBooks();
        for (int kind = 0; kind < 6; kind++) {
            x.account(kind, 3, kind);
        }
        String before = Check.standing(x);
        for (int kind = 0; kind < 6; kind++) {
            for (int act = 0; act < 3; act++) {
                ran(x, kind, act, 5, ACTS[kind][act]);
            }
        }
        due("36: no such account", x.act(6, 0, 1), 0);
        due("36: no trace then", x.count(6), 0);
        CHECK.holds("36: an act changes nothing else", Check.standing(x).equals(before));
        LakeBooks y = new LakeBooks();
        y.account(6, 5, 0);
        ran(y, 0, 0, 4, new int[] {1, 71, 10});
        ran(y, 0, 1, 4, new int[] {-2, 70, 11, 71, 10, 10});
        ran(y, 0, 2, 4, new int[] {-3, 40, 12, 70, 11, 71, 10, 10, 70, 11, 71, 10, 10});
    }

    private static void ran(LakeBooks x, int account, int act, int n, int[] due) {
        String call = "36: act(" + account + ", " + act + ", " + n + ")";
        due(call, x.act(account, act, n), due[0]);
        due(call + ": count(6)", x.count(6), due.length - 1);
        for (int i = 1; i < due.length; i++) {
            due(call + ": trace(" + (i - 1) + ")", x.trace(i - 1), due[i]);
        }
        due(call + ": the trace's end", x.trace(due.length - 1), -1);
    }

    private static void promise36Wraps() {
        LakeBooks x = new LakeBooks();
        x.account(0, 0, 0);
        x.account(0, 9, 0);
        x.account(2, 9, 0);
        due("36: wraps", x.act(1, 0, Integer.MAX_VALUE), Integer.MIN_VALUE);
        due("36: wraps", x.act(2, 0, Integer.MAX_VALUE), Integer.MAX_VALUE * 3 + 2);
        due("36: wraps", x.act(0, 1, Integer.MIN_VALUE), Integer.MIN_VALUE);
        due("36: wraps", x.act(1, 1, Integer.MIN_VALUE), Integer.MIN_VALUE + 1 - 9);
        due("36: wraps", x.act(0, 2, 1 << 30), Integer.MIN_VALUE);
    }

    private static void promise37() {
        LakeBooks x = new LakeBooks();
        x.account(1, 0, 0);
        due("37: no act yet", x.trace(0), -1);
        x.act(0, 2, 0);
        due("37: trace(0)", x.trace(0), 12);
        due("37: trace(3)", x.trace(3), 10);
        due("37: trace(4)", x.trace(4), -1);
        due("37: trace(-1)", x.trace(-1), -1);
        due("37: trace(MAX)", x.trace(Integer.MAX_VALUE), -1);
        x.day();
        due("37: kept", x.trace(1), 20);
        x.act(0, 0, 0);
        due("37: of the latest", x.trace(0), 10);
        due("37: of the latest", x.trace(1), -1);
        due("37: act(0, 3, 1)", x.act(0, 3, 1), 0);
        due("37: no trace", x.trace(0), -1);
        x.act(0, 0, 0);
        due("37: act(0, -1, 1)", x.act(0, -1, 1), 0);
        due("37: no trace", x.count(6), 0);
    }

    private static void promise38() {
        LakeBooks x = new LakeBooks();
        String[] ways = {"0", "01", "02", "03", "014", "025", "036"};
        for (int kind = 0; kind < 7; kind++) {
            // Six at most are there, so the seventh kind stands in another object.
            LakeBooks y = new LakeBooks();
            y.account(kind, 0, 0);
            for (int k = 0; k < 7; k++) {
                boolean under = ways[kind].indexOf('0' + k) >= 0;
                due("38: KIND " + kind + " taken for " + k, y.taken(0, k), under ? kind : -12);
            }
        }
        due("38: taken(0, 0)", x.taken(0, 0), -11);
        due("38: taken(0, 7), BAD first", x.taken(0, 7), -2);
        due("38: taken(0, -1)", x.taken(0, -1), -2);
        due("38: taken(-1, 6)", x.taken(-1, 6), -11);
        x.account(0, 0, 0);
        due("38: taken(1, 0)", x.taken(1, 0), -11);
    }

    private static void promise39() {
        LakeBooks x = new LakeBooks();
        x.account(0, 0, 0);
        x.account(0, 0, 0);
        Check.law(x, "mark 1");
        Check.law(x, "nothing");
        x.see(1, 1);
        x.see(2, 1);
        x.see(3, 1);
        for (int i = 0; i < 4; i++) {
            x.plan(0, i);
        }
        for (int i = 0; i < 5; i++) {
            x.book(0, i);
        }
        Check.feed(x, "sun;;;");
        x.act(0, 2, 1);
        int[] due = {2, 1, 3, 4, 5, 6, 3};
        for (int what = 0; what < due.length; what++) {
            due("39: count(" + what + ")", x.count(what), due[what]);
        }
        due("39: count(7)", x.count(7), -2);
        due("39: count(-1)", x.count(-1), -2);
    }

    private static void promise40() {
        LakeBooks x = new LakeBooks();
        due("40: tape(-1, 9, 99)", x.tape(-1, 9, 99), -1);
        due("40: tape(6, 0, 0)", x.tape(6, 0, 0), -1);
        due("40: tape(0, 5, 0)", x.tape(0, 5, 0), -2);
        due("40: tape(0, -2, -1), BAD first", x.tape(0, -2, -1), -2);
        due("40: tape(0, 0, 61)", x.tape(0, 0, 61), -2);
        due("40: tape(0, 0, -1)", x.tape(0, 0, -1), -14);
        due("40: tape(0, 4, MIN)", x.tape(0, 4, Integer.MIN_VALUE), -14);
        due("40: nothing came", x.item(0, 0, 1), -11);
        for (int sort = 0; sort <= 4; sort++) {
            due("40: tape", x.tape(sort, sort, 60), 1);
            due("40: its last", x.item(sort, 59, 1), 1);
            due("40: its end", x.item(sort, 60, 1), -13);
            due("40: tape", x.tape(sort, sort, 60), 1);
            due("40: all 0", x.read(sort, 59), 0);
            x.item(sort, 0, 1);
            due("40: tape", x.tape(sort, sort, 1), 1);
            due("40: all 0", x.read(sort, 0), 0);
        }
        due("40: none at all", x.tape(5, 2, 0), 1);
        due("40: it has no place", x.item(5, 0, 0), -13);
        due("40: nothing", x.tape(5, -1, -99), 1);
        due("40: it holds nothing", x.item(5, 0, 0), -11);
        due("40: nothing, n does not matter", x.tape(4, -1, 999), 1);
        due("40: it holds nothing", x.read(4, 0), NO);
    }

    private static void promise41() {
        LakeBooks x = new LakeBooks();
        due("41: item(-1, 0, 0)", x.item(-1, 0, 0), -1);
        due("41: item(6, 0, 0)", x.item(6, 0, 0), -1);
        due("41: item(0, 0, 0)", x.item(0, 0, 0), -11);
        due("41: item(0, -1, 0), NOTHING first", x.item(0, -1, 0), -11);
        for (int sort = 0; sort <= 4; sort++) {
            x.tape(sort, sort, 3);
            due("41: below 0", x.item(sort, -1, 1), -13);
            due("41: beyond the end", x.item(sort, 3, 1), -13);
        }
        long v = 0x123456789ABCDEF0L;
        long[] cut = {(byte) 0xF0, (short) 0xDEF0, 0x9ABCDEF0, v, 1};
        for (int sort = 0; sort <= 4; sort++) {
            due("41: item", x.item(sort, 1, v), 1);
            due("41: its lowest bits", x.read(sort, 1), cut[sort]);
            due("41: the one ahead", x.read(sort, 0), 0);
            due("41: the one behind", x.read(sort, 2), 0);
        }
        x.item(4, 0, 1L << 40);
        due("41: a boolean", x.read(4, 0), 1);
        x.item(4, 0, 0);
        due("41: a boolean", x.read(4, 0), 0);
        x.item(0, 0, 256);
        due("41: a byte", x.read(0, 0), 0);
    }

    private static void promise42() {
        LakeBooks x = new LakeBooks();
        due("42: read(-1, 0)", x.read(-1, 0), NO);
        due("42: read(6, 0)", x.read(6, 0), NO);
        due("42: read(0, 0)", x.read(0, 0), NO);
        x.tape(0, 3, 2);
        x.item(0, 1, -7);
        due("42: read(0, 1)", x.read(0, 1), -7);
        due("42: read(0, 0)", x.read(0, 0), 0);
        due("42: read(0, -1)", x.read(0, -1), NO);
        due("42: read(0, 2)", x.read(0, 2), NO);
        due("42: read(0, MAX)", x.read(0, Integer.MAX_VALUE), NO);
    }

    private static void promise43() {
        LakeBooks x = new LakeBooks();
        x.tape(0, 2, 6);
        x.tape(1, 2, 4);
        x.tape(2, 3, 4);
        for (int i = 0; i < 6; i++) {
            x.item(0, i, i + 1);
        }
        due("43: shift(6, 0, 0, 0, -1)", x.shift(6, 0, 0, 0, -1), -1);
        due("43: shift(0, 0, -1, 0, 1)", x.shift(0, 0, -1, 0, 1), -1);
        due("43: shift(3, 0, -1, 0, 1), NONE first", x.shift(3, 0, -1, 0, 1), -1);
        due("43: shift(3, -1, 0, 0, 1)", x.shift(3, -1, 0, 0, 1), -11);
        due("43: shift(0, 0, 3, 0, 9)", x.shift(0, 0, 3, 0, 9), -11);
        due("43: of unlike sorts, CAST first", x.shift(0, -1, 2, 0, -1), -12);
        int[][] wrong = {{-1, 0, 1}, {0, -1, 1}, {0, 0, -1}, {6, 0, 1}, {5, 0, 2}, {0, 4, 1}, {0, 3, 2}, {7, 0, 0},
            {0, 5, 0}, {0, 0, 5}, {Integer.MAX_VALUE, 0, 1}, {1, 1, Integer.MAX_VALUE}, {0, Integer.MAX_VALUE, 0}};
        for (int[] w : wrong) {
            due("43: no such place", x.shift(0, w[0], 1, w[1], w[2]), -13);
        }
        for (int i = 0; i < 4; i++) {
            due("43: nothing came", x.read(1, i), 0);
        }
        due("43: none, at both ends", x.shift(0, 6, 1, 4, 0), 0);
        due("43: shift", x.shift(0, 2, 1, 1, 3), 3);
        row(x, 1, 0, 3, 4, 5);
        row(x, 0, 1, 2, 3, 4, 5, 6);
        due("43: onto itself, up", x.shift(0, 0, 0, 2, 4), 4);
        row(x, 0, 1, 2, 1, 2, 3, 4);
        due("43: onto itself, down", x.shift(0, 1, 0, 0, 5), 5);
        row(x, 0, 2, 1, 2, 3, 4, 4);
        due("43: all", x.shift(1, 0, 1, 0, 4), 4);
        row(x, 1, 0, 3, 4, 5);
    }

    private static void row(LakeBooks x, int tape, int... due) {
        for (int i = 0; i < due.length; i++) {
            due("43: item " + i + " of " + tape, x.read(tape, i), due[i]);
        }
    }
}
