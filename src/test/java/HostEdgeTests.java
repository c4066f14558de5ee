import java.lang.reflect.Field;
import java.lang.reflect.Method;
import java.util.function.ToLongFunction;

/** The edges of judging, the image, acts and tapes (promises 33 to 43). */
public final class HostEdgeTests {
    private static final Check CHECK = new Check("HostEdgeTests");
    private static final long NO = Long.MIN_VALUE;
    private static final int MIN = Integer.MIN_VALUE, MAX = Integer.MAX_VALUE;

    private static void due(String call, long got, long want) {
        CHECK.due(call, got, want);
    }

    public static void main(String[] args) throws Exception {
        judge();
        judgeNobody();
        imageParts();
        imageAgain();
        notOfTheImage();
        acts();
        actsThatWrap();
        trace();
        longTrace();
        taken();
        counts();
        tapeSizes();
        itemBits();
        shifts();
        shiftAll();
        CHECK.end();
    }

    private static LakeBooks six() {
        LakeBooks x = new LakeBooks();
        for (int a = 0; a < 6; a++) {
            x.account(a + 1, 0, 0);
            x.set(a, 0, 100 * a - 250);
        }
        return x;
    }

    private static void judge() {
        LakeBooks x = six();
        due("33: the TAPE holds nothing", x.judge(5, 0), 100);
        due("33: the TAPE holds nothing, below 0", x.judge(5, -1), 100);
        x.tape(5, 2, 0);
        due("33: a row of none", x.judge(5, 0), 100);
        x.tape(5, 2, 60);
        for (int a = 0; a < 6; a++) {
            x.item(5, 54 + a, 100 * a - 250);
        }
        due("33: all are so, up to the row's end", x.judge(5, 54), -5);
        due("33: below 0", x.judge(5, -1), 100);
        due("33: far below 0", x.judge(5, MIN), 100);
        due("33: at the end", x.judge(5, 60), 100);
        due("33: far beyond the end", x.judge(5, MAX), 100);
        due("33: no such TAPE", x.judge(6, 54), -1);
        due("33: no such TAPE", x.judge(-1, 54), -1);
        for (int off = 0; off < 6; off++) {
            x.item(5, 54 + off, 7);
            due("33: otherwise is " + off, x.judge(5, 54), off);
            x.item(5, 54 + off, 100 * off - 250);
        }
        x.tape(4, 2, 60);
        for (int most = 5; most >= 1; most--) {
            x.shift(5, 54, 4, 60 - most, most);
            due("33: the row ends behind " + most, x.judge(4, 60 - most), 100 + most);
            x.set(most - 1, 0, 999);
            due("33: otherwise is the last of " + most, x.judge(4, 60 - most), most - 1);
            x.set(most - 1, 0, 100 * (most - 1) - 250);
        }
        LakeBooks y = six();
        y.tape(0, 2, 6);
        for (int a = 0; a < 6; a++) {
            y.item(0, a, 100 * a - 250);
        }
        due("33: a row that just holds all", y.judge(0, 0), -5);
        due("33: from 1 on", y.judge(0, 1), 0);
        y.item(0, 0, 1L << 32);
        y.set(0, 0, 0);
        due("33: an int's lowest bits", y.judge(0, 0), -5);
        for (int sort = 0; sort <= 4; sort++) {
            y.tape(1, sort, 0);
            due("33: none of sort " + sort, y.judge(1, 0), sort == 2 ? 100 : -12);
        }
    }

    private static void judgeNobody() {
        LakeBooks x = new LakeBooks();
        due("33: nobody, the TAPE holds nothing", x.judge(0, 0), -5);
        x.tape(0, 2, 1);
        due("33: nobody", x.judge(0, 0), -5);
        due("33: nobody, at the end", x.judge(0, 1), -5);
        x.tape(0, 3, 1);
        due("33: nobody, another sort", x.judge(0, 0), -12);
        due("33: nobody, no such TAPE", x.judge(6, 0), -1);
    }

    private static LakeBooks imaged() {
        LakeBooks x = new LakeBooks();
        x.account(4, 3, -5);
        x.account(6, 4, 6);
        x.set(0, 0, 40);
        x.set(0, 2, 7);
        x.row(1, 0, 1);
        x.row(1, 3, 4);
        Check.law(x, "mark 41;sun 1 a=0");
        x.see(0, 24);
        x.plan(0, 9);
        x.book(0, 34);
        x.day();
        due("34: image()", x.image(), 2);
        return x;
    }

    /** Each part of THE IMAGE by itself: changed behind it, then as it was. */
    private static void imageParts() {
        undone("AREA of step 0", x -> x.area(0, 20));
        undone("AREA of step 5", x -> x.area(5, 1));
        undone("an account more", x -> x.account(0, 0, 0));
        undone("BUCKETS", x -> x.set(0, 0, -999));
        undone("DAILY", x -> x.set(1, 1, -30));
        undone("STONES", x -> x.set(0, 2, 0));
        undone("the ROW's 0", x -> x.row(1, 0, 9));
        undone("the ROW's 3", x -> x.row(1, 3, 0));
        undone("WATER", x -> x.water(9999));
        undone("DAY", LakeBooks::day);
        undone("TOWN", x -> x.water(9999) + x.day());
        undone("SEEN", x -> x.see(1, 1));
        undone("SEEN, none", x -> x.see(-1, 0));
        undone("SEEN, another", x -> x.see(-1, 0) + x.see(0, 25));
        undone("the PLAN", x -> x.plan(1, 1));
        undone("the PLAN, empty", x -> x.plan(-1, 0));
        undone("the PLAN, another", x -> x.plan(-1, 0) + x.plan(0, -30));
        undone("the BOOK", x -> x.book(1, 1));
        undone("the BOOK, empty", x -> x.book(-1, 0));
        undone("the BOOK, another", x -> x.book(-1, 0) + x.book(1, 33));
    }

    private static void undone(String what, ToLongFunction<LakeBooks> change) {
        LakeBooks x = imaged();
        String before = Town.seen(x);
        change.applyAsLong(x);
        CHECK.holds("34: otherwise is " + what, !Town.seen(x).equals(before));
        due("35: undo() of " + what, x.undo(), 2);
        CHECK.same("35: as THE IMAGE is " + what, Town.seen(x), before);
    }

    private static void imageAgain() {
        LakeBooks x = new LakeBooks();
        due("35: there is none", x.undo(), -3);
        due("34: of nobody", x.image(), 0);
        for (int a = 1; a <= 6; a++) {
            x.account(a, 0, 0);
            due("35: nobody again", x.undo(), 0);
            due("39: count(0)", x.count(0), 0);
        }
        for (int a = 1; a <= 6; a++) {
            due("4: by the next number", x.account(a, a, a), a - 1);
        }
        due("34: of six", x.image(), 6);
        due("35: six", x.undo(), 6);
        due("35: six again", x.undo(), 6);
        for (int a = 0; a < 6; a++) {
            due("35: KIND of " + a, x.of(a, 0), a + 1);
        }
        x.water(7);
        due("34: the latest", x.image(), 6);
        x.water(8);
        x.undo();
        due("35: WATER of the latest", x.told(1), 7);
        LakeBooks y = new LakeBooks();
        y.account(4, 0, 0);
        y.set(0, 2, 20);
        y.set(0, 0, 500);
        y.image();
        y.account(6, 9, 9);
        y.row(1, 0, 9);
        y.set(1, 0, 77);
        y.undo();
        y.account(6, 1, 1);
        due("4: a new one's ROW", y.of(1, 6), 1);
        due("4: a new one's BUCKETS", y.of(1, 2), 0);
    }

    private static void notOfTheImage() {
        LakeBooks x = new LakeBooks();
        x.account(0, 0, 0);
        Check.law(x, "mark 30;floor 3;rate 2;sun 1 a=0;spring 1 d=0");
        x.image();
        Check.law(x, "mark 40");
        Check.law(x, "mark 41");
        Check.feed(x, "mark 2");
        x.tape(0, 2, 4);
        x.item(0, 3, 9);
        x.act(0, 2, 5);
        due("35: undo()", x.undo(), 1);
        int[] told = {20, 30, 3, 2, 6};
        for (int what = 3; what <= 7; what++) {
            due("35: told(" + what + ") by the law that held", x.told(what), told[what - 3]);
        }
        due("35: SUN by the law that held", x.of(0, 7), 1);
        due("35: LAWS stay", x.count(1), 3);
        due("35: THE TEXT stays", x.count(5), 6);
        due("35: TAPES stay", x.read(0, 3), 9);
        due("35: the TRACE stays", x.trace(0), 12);
        due("35: the TRACE stays", x.count(6), 3);
        due("10: the next law", x.law(), 3);
        due("10: it holds", x.told(4), 2);
        due("35: undo() once more", x.undo(), 1);
        due("35: the law that held", x.told(4), 30);
        x.image();
        Check.law(x, "mark 4x");
        x.undo();
        due("35: a wrong one changed nothing", x.told(4), 30);
    }

    private static void acts() {
        String before = Town.seen(six());
        for (int[] wrong : new int[][] {{-1, 0}, {6, 0}, {MIN, 1}, {MAX, 2}, {0, -1}, {0, 3}, {5, MIN}, {5, MAX}}) {
            LakeBooks x = six();
            x.act(0, 2, 4);
            due("36: act(" + wrong[0] + ", " + wrong[1] + ", 5)", x.act(wrong[0], wrong[1], 5), 0);
            due("36: no TRACE then", x.count(6), 0);
            due("36: no TRACE then", x.trace(0), -1);
            CHECK.same("36: no more than that", Town.seen(x), before);
        }
        LakeBooks x = six();
        Model model = new Model();
        for (int a = 0; a < 6; a++) {
            model.account(a + 1, 0, 0);
            for (int act = 0; act <= 2; act++) {
                due("36: act(" + a + ", " + act + ", 0)", x.act(a, act, 0), model.act(a, act, 0));
                due("36: bodies", x.count(6), model.count(6));
            }
        }
        LakeBooks y = new LakeBooks();
        due("36: nobody", y.act(0, 0, 5), 0);
        y.account(0, 0, 0);
        due("36: somebody", y.act(0, 0, 5), 5);
        due("36: act 0, the least", y.act(0, 0, 5), 5);
        due("36: act 2, the last", y.act(0, 2, 5), 10);
    }

    /** Java's own super and Java's own ints, for every KIND, number, v and act. */
    private static void actsThatWrap() {
        int[] xs = {MIN, MIN + 1, MAX, MAX - 1, 1 << 30, -1 << 30, (1 << 30) - 1, MAX / 3, MAX / 3 + 1, MIN / 3,
            MIN / 3 - 1, 0, 1, -1, 5, -6};
        for (int kind = 0; kind <= 6; kind++) {
            for (int v : new int[] {0, 1, 9}) {
                LakeBooks real = new LakeBooks();
                Model model = new Model();
                for (int a = 0; a < 6; a++) {
                    real.account(kind, v, 0);
                    model.account(kind, v, 0);
                }
                for (int n : xs) {
                    for (int act = 0; act <= 2; act++) {
                        for (int a = 0; a < 6; a += 5) {
                            String call = "36: act " + act + " of " + a + ", KIND " + kind + ", v " + v + ", x " + n;
                            due(call, real.act(a, act, n), model.act(a, act, n));
                        }
                    }
                }
            }
        }
        LakeBooks x = new LakeBooks();
        for (int a = 0; a < 6; a++) {
            x.account(a == 0 ? 4 : a == 1 ? 2 : 0, 9, 0);
        }
        due("36: above MAX", x.act(5, 0, MAX), MIN + 4);
        due("36: just MAX", x.act(5, 0, MAX - 5), MAX);
        due("36: below MIN", x.act(5, 1, MIN), MIN + 5 - 9);
        due("36: minus MIN", x.act(0, 0, MIN), MIN);
        due("36: times 3", x.act(1, 0, MAX / 3 + 1), MIN + 2);
        due("36: times 2", x.act(2, 2, 1 << 30), (MIN + 2 * 2) - 18);
    }

    private static void trace() {
        LakeBooks x = new LakeBooks();
        due("37: none yet", x.trace(0), -1);
        x.account(6, 3, 0);
        x.act(0, 2, 1);
        int[] bodies = {40, 12, 70, 11, 71, 10, 10, 70, 11, 71, 10, 10};
        due("39: count(6)", x.count(6), bodies.length);
        for (int i = 0; i < bodies.length; i++) {
            due("37: trace(" + i + ")", x.trace(i), bodies[i]);
        }
        for (int i : new int[] {-1, bodies.length, 19, 20, 21, MIN, MAX}) {
            due("37: trace(" + i + ")", x.trace(i), -1);
        }
        x.act(0, 0, 1);
        due("37: a shorter one", x.trace(1), 10);
        due("37: nothing of the longer one", x.trace(2), -1);
    }

    /** No act has more than 12 bodies, so the test has more of them told: the first 20 are kept, all are counted. */
    private static void longTrace() throws Exception {
        LakeBooks x = new LakeBooks();
        x.account(0, 0, 0);
        x.act(0, 0, 0);
        Field acts = LakeBooks.class.getDeclaredField("acts");
        acts.setAccessible(true);
        Method note = acts.get(x).getClass().getDeclaredMethod("note", int.class);
        note.setAccessible(true);
        for (int ran = 2; ran <= 25; ran++) {
            note.invoke(acts.get(x), 100 + ran);
            due("39: bodies", x.count(6), ran);
            due("37: the latest of " + ran, x.trace(ran - 1), ran <= 20 ? 100 + ran : -1);
            due("37: the first of " + ran, x.trace(0), 10);
            due("37: the 20th of " + ran, x.trace(19), ran < 20 ? -1 : 120);
        }
        x.act(0, 1, 0);
        due("39: bodies of the next act", x.count(6), 2);
        due("37: none of the latest's", x.trace(2), -1);
    }

    private static void taken() {
        LakeBooks x = six();
        int[][] ways = {{0, 1}, {0, 2}, {0, 3}, {0, 1, 4}, {0, 2, 5}, {0, 3, 6}};
        for (int a = 0; a < 6; a++) {
            for (int k = 0; k <= 6; k++) {
                int due = -12;
                for (int way : ways[a]) {
                    due = way == k ? a + 1 : due;
                }
                due("38: KIND " + (a + 1) + " taken for " + k, x.taken(a, k), due);
            }
            due("38: taken for -1", x.taken(a, -1), -2);
            due("38: taken for 7", x.taken(a, 7), -2);
        }
        due("38: account 6", x.taken(6, 0), -11);
        due("38: account -1", x.taken(-1, 0), -11);
        due("38: BAD ahead of NOTHING", x.taken(6, 7), -2);
    }

    private static void counts() {
        LakeBooks x = new LakeBooks();
        for (int what = 0; what <= 6; what++) {
            due("39: count(" + what + ") of what is new", x.count(what), 0);
        }
        due("39: count(-1)", x.count(-1), -2);
        due("39: count(7)", x.count(7), -2);
        LakeBooks full = Town.full();
        int[] due = {6, 6, 4, 8, 8, 1, 12};
        for (int what = 0; what <= 6; what++) {
            due("39: count(" + what + ") of what is full", full.count(what), due[what]);
        }
        due("39: count(5) of a full TEXT", Town.texted().count(5), 100);
    }

    private static void tapeSizes() {
        for (int tape = 0; tape < 6; tape++) {
            LakeBooks x = new LakeBooks();
            for (int sort = 0; sort <= 4; sort++) {
                sizesOf(x, tape, sort);
            }
            due("40: sort 5", x.tape(tape, 5, 1), -2);
            due("40: sort -2", x.tape(tape, -2, 1), -2);
        }
        LakeBooks x = new LakeBooks();
        for (int n : new int[] {MIN, -1, 0, 60, 61, MAX}) {
            x.tape(0, 2, 3);
            due("40: nothing, whatever n is", x.tape(0, -1, n), 1);
            due("41: nothing is there", x.item(0, 0, 1), -11);
            due("42: nothing is there", x.read(0, 0), NO);
        }
        due("40: TAPE 6", x.tape(6, 2, 1), -1);
        due("40: TAPE -1", x.tape(-1, 2, 1), -1);
    }

    private static void sizesOf(LakeBooks x, int tape, int sort) {
        due("40: 0 of sort " + sort, x.tape(tape, sort, 0), 1);
        due("41: no place", x.item(tape, 0, 1), -13);
        due("42: no place", x.read(tape, 0), NO);
        due("40: 60 of sort " + sort, x.tape(tape, sort, 60), 1);
        due("41: the last place", x.item(tape, 59, 1), 1);
        due("41: the place behind", x.item(tape, 60, 1), -13);
        due("41: the first place", x.item(tape, 0, 1), 1);
        due("41: the place ahead", x.item(tape, -1, 1), -13);
        due("40: 61 of sort " + sort, x.tape(tape, sort, 61), -2);
        due("40: -1 of sort " + sort, x.tape(tape, sort, -1), -14);
        due("42: as it was", x.read(tape, 59), 1);
        due("40: 60 anew", x.tape(tape, sort, 60), 1);
        due("42: all 0", x.read(tape, 0), 0);
        due("42: all 0", x.read(tape, 59), 0);
    }

    /** An item keeps as many of the lowest bits as it has. */
    private static void itemBits() {
        long[] vs = {0, 1, -1, 2, 127, 128, -128, -129, 255, 256, 32767, 32768, -32768, -32769, 65535, 65536,
            MAX, MAX + 1L, MIN, MIN - 1L, 0xFFFFFFFFL, 1L << 32, 1L << 40, Long.MAX_VALUE, Long.MIN_VALUE};
        LakeBooks x = new LakeBooks();
        for (int sort = 0; sort <= 4; sort++) {
            x.tape(sort, sort, 2);
        }
        for (long v : vs) {
            long[] due = {(byte) v, (short) v, (int) v, v, v == 0 ? 0 : 1};
            for (int sort = 0; sort <= 4; sort++) {
                due("41: item of sort " + sort, x.item(sort, 1, v), 1);
                due("42: " + v + " of sort " + sort, x.read(sort, 1), due[sort]);
                due("42: the other item", x.read(sort, 0), 0);
            }
        }
        x.item(0, 0, 128);
        due("41: a byte of 128", x.read(0, 0), -128);
        x.item(1, 0, 32768);
        due("41: a short of 32768", x.read(1, 0), -32768);
        x.item(2, 0, 1L << 31);
        due("41: an int of 2147483648", x.read(2, 0), MIN);
        x.item(4, 0, 1L << 63);
        due("41: a boolean of the highest bit", x.read(4, 0), 1);
    }

    private static LakeBooks counted(int n) {
        LakeBooks x = new LakeBooks();
        for (int tape = 0; tape < 2; tape++) {
            x.tape(tape, 3, n);
            for (int i = 0; i < n; i++) {
                x.item(tape, i, 100 * tape + i);
            }
        }
        return x;
    }

    /** Each i, j, n of a row of 5 and of one that begins at it: against a copy made by hand. */
    private static void shifts() {
        for (int other = 0; other <= 1; other++) {
            for (int i = -1; i <= 6; i++) {
                for (int j = -1; j <= 6; j++) {
                    for (int n = -1; n <= 6; n++) {
                        LakeBooks x = counted(5);
                        boolean fits = i >= 0 && j >= 0 && n >= 0 && i + n <= 5 && j + n <= 5;
                        String call = "43: shift(0, " + i + ", " + other + ", " + j + ", " + n + ")";
                        due(call, x.shift(0, i, other, j, n), fits ? n : -13);
                        for (int k = 0; k < 5; k++) {
                            boolean come = fits && k >= j && k < j + n;
                            due(call + ": item " + k, x.read(other, k), come ? i + k - j : 100 * other + k);
                            due(call + ": the other's", x.read(1 - other, k), 100 * (1 - other) + k);
                        }
                    }
                }
            }
        }
    }

    private static void shiftAll() {
        LakeBooks x = counted(60);
        due("43: 61", x.shift(0, 0, 1, 0, 61), -13);
        due("43: all 60", x.shift(0, 0, 1, 0, 60), 60);
        due("43: the first", x.read(1, 0), 0);
        due("43: the last", x.read(1, 59), 59);
        due("43: 59 up by one", x.shift(1, 0, 1, 1, 59), 59);
        due("43: the first stays", x.read(1, 0), 0);
        due("43: the second is the first", x.read(1, 1), 0);
        due("43: the last is the one ahead of it", x.read(1, 59), 58);
        due("43: none from the end to the end", x.shift(0, 60, 1, 60, 0), 0);
        due("43: none from beyond the end", x.shift(0, 61, 1, 0, 0), -13);
        due("43: none to beyond the end", x.shift(0, 0, 1, 61, 0), -13);
        for (int sort = 0; sort <= 4; sort++) {
            x.tape(2, sort, 2);
            x.tape(3, sort, 0);
            x.item(2, 1, 1);
            due("43: none to a row of none", x.shift(2, 2, 3, 0, 0), 0);
            due("43: one to a row of none", x.shift(2, 1, 3, 0, 1), -13);
            due("43: one of sort " + sort, x.shift(2, 1, 2, 0, 1), 1);
            due("43: it came", x.read(2, 0), 1);
        }
    }
}
