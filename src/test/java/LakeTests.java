/** Promises 1 to 11: the lake, accounts, laws. */
public final class LakeTests {
    private static final Check CHECK = new Check("LakeTests");

    private static void due(String call, long got, long want) {
        CHECK.due(call, got, want);
    }

    public static void main(String[] args) {
        promise1();
        promise2();
        promise3();
        promise4();
        promise5();
        promise6();
        promise7();
        promise8();
        promise9();
        promise10Faults();
        promise10Laws();
        promise10Precedence();
        promise11();
        CHECK.end();
    }

    private static void promise1() {
        LakeBooks x = new LakeBooks();
        for (int what = 0; what <= 6; what++) {
            due("1: count(" + what + ")", x.count(what), 0);
        }
        int[] told = {0, 200, 0, 20, 50, 5, 0, 5};
        for (int what = 0; what < told.length; what++) {
            due("1: told(" + what + ")", x.told(what), told[what]);
        }
        for (int s = 0; s < 6; s++) {
            due("1: told(1" + s + ")", x.told(10 + s), 10);
            due("1: of(" + s + ", 0)", x.of(s, 0), -10001);
            due("1: item(" + s + ", 0, 0)", x.item(s, 0, 0), -11);
        }
        due("1: undo()", x.undo(), -3);
        due("1: trace(0)", x.trace(0), -1);
        LakeBooks other = new LakeBooks();
        x.account(0, 0, 0);
        x.water(3);
        due("1: another object is its own", other.count(0), 0);
        due("1: another object's water", other.told(1), 200);
    }

    private static void promise2() {
        LakeBooks x = new LakeBooks();
        due("2: area(0, 1)", x.area(0, 1), 10);
        due("2: area(0, 20)", x.area(0, 20), 1);
        due("2: area(5, 7)", x.area(5, 7), 10);
        due("2: area(-1, 5)", x.area(-1, 5), -1);
        due("2: area(6, 5)", x.area(6, 5), -1);
        due("2: area(6, 0)", x.area(6, 0), -1);
        due("2: area(0, 0)", x.area(0, 0), -2);
        due("2: area(0, 21)", x.area(0, 21), -2);
        due("2: area(0, MIN)", x.area(0, Integer.MIN_VALUE), -2);
        due("2: told(10)", x.told(10), 20);
        due("2: told(15)", x.told(15), 7);
        due("2: told(11)", x.told(11), 10);
    }

    private static void promise3() {
        LakeBooks x = new LakeBooks();
        for (int s = 0; s < 6; s++) {
            x.area(s, s + 1);
        }
        due("3: volume(0)", x.volume(0), 0);
        due("3: volume(1)", x.volume(1), 1);
        due("3: volume(10)", x.volume(10), 10);
        due("3: volume(11)", x.volume(11), 12);
        due("3: volume(25)", x.volume(25), 10 + 20 + 15);
        due("3: volume(59)", x.volume(59), 150 + 54);
        due("3: volume(60)", x.volume(60), 210);
        due("3: volume(61)", x.volume(61), -2);
        due("3: volume(-1)", x.volume(-1), -2);
    }

    private static void promise4() {
        LakeBooks x = new LakeBooks();
        due("4: account(-1, 10, 31)", x.account(-1, 10, 31), -1);
        due("4: account(7, 0, 0)", x.account(7, 0, 0), -1);
        due("4: account(0, -1, 0)", x.account(0, -1, 0), -2);
        due("4: account(0, 10, 0)", x.account(0, 10, 0), -2);
        due("4: account(0, 0, -31)", x.account(0, 0, -31), -2);
        due("4: account(0, 0, 31)", x.account(0, 0, 31), -2);
        due("4: count(0) behind refusals", x.count(0), 0);
        due("4: account(6, 9, 30)", x.account(6, 9, 30), 0);
        due("4: account(0, 0, -30)", x.account(0, 0, -30), 1);
        for (int a = 2; a < 6; a++) {
            due("4: account", x.account(a, a, a), a);
        }
        due("4: the seventh", x.account(0, 0, 0), -4);
        due("4: the seventh, BAD first", x.account(0, 10, 0), -2);
        due("4: the seventh, NONE first", x.account(9, 10, 0), -1);
        due("4: count(0)", x.count(0), 6);
        int[] fresh = {6, 9, 0, 30, 0, 9, 30, 0};
        for (int what = 0; what < fresh.length; what++) {
            due("4: of(0, " + what + ")", x.of(0, what), fresh[what]);
        }
    }

    private static LakeBooks allKinds() {
        LakeBooks x = new LakeBooks();
        for (int kind = 0; kind < 6; kind++) {
            x.account(kind, kind + 2, 10 - 3 * kind);
        }
        return x;
    }

    private static void promise5() {
        LakeBooks x = allKinds();
        Check.law(x, "rate 7;sun 3 a=1;sun 4 k>3;sun 20 b<0;sun 1 l>30");
        x.set(1, 0, 199);
        x.set(4, 0, 50);
        x.set(4, 2, 3);
        x.set(5, 0, -10);
        x.set(3, 0, -9);
        int[][] due = {
            {0, 2, 0, 10, 0, 0, 10, 0}, {1, 3, 199, 7, 0, 0, 7 + 13, 3}, {2, 4, 0, 4, 0, 0, 0, 0},
            {3, 5, -9, 1, 0, 5, 1, 0}, {4, 6, 50, -2, 3, 15, -2 + 3, 4}, {5, 7, -10, -5, 0, 0, -12, 4 + 20}};
        for (int a = 0; a < 6; a++) {
            for (int what = 0; what <= 7; what++) {
                due("5: of(" + a + ", " + what + ")", x.of(a, what), due[a][what]);
            }
        }
        x.set(1, 0, -199);
        due("5: no interest below 0", x.of(1, 6), 7);
        x.water(289);
        due("5: THE LEVEL is 30", x.told(3), 30);
        due("5: LEAKING at level 30", x.of(5, 6), -12);
        due("5: sun at level 30", x.of(0, 7), 0);
        x.water(290);
        due("5: LEAKING above level 30", x.of(5, 6), -13);
        due("5: LENDING above level 30", x.of(2, 6), 0);
        due("5: sun above level 30", x.of(0, 7), 1);
        due("5: of(6, 0)", x.of(6, 0), -10001);
        due("5: of(-1, 0)", x.of(-1, 0), -10001);
        due("5: of(0, 8)", x.of(0, 8), -10001);
        due("5: of(0, -1)", x.of(0, -1), -10001);
        LakeBooks y = new LakeBooks();
        y.account(6, 8, -4);
        for (int part = 0; part < 4; part++) {
            y.row(0, part, 2 * part + 1);
        }
        due("5: TOLD lifts", y.of(0, 5), 8);
        for (int day = 0; day < 9; day++) {
            due("5: TOLD on day " + day, y.of(0, 6), -4 + 2 * (day % 4) + 1);
            y.day();
        }
    }

    private static void promise6() {
        LakeBooks x = allKinds();
        due("6: set(6, 0, 0)", x.set(6, 0, 0), -10001);
        due("6: set(-1, 0, 0)", x.set(-1, 0, 0), -10001);
        due("6: set(0, 3, 0)", x.set(0, 3, 0), -10001);
        due("6: set(0, -1, 9999)", x.set(0, -1, 9999), -10001);
        due("6: set(0, 0, 1000)", x.set(0, 0, 1000), -10002);
        due("6: set(0, 0, -1000)", x.set(0, 0, -1000), -10002);
        due("6: set(0, 1, 31)", x.set(0, 1, 31), -10002);
        due("6: set(0, 1, -31)", x.set(0, 1, -31), -10002);
        due("6: set(4, 2, 21)", x.set(4, 2, 21), -10002);
        due("6: set(4, 2, -1)", x.set(4, 2, -1), -10002);
        due("6: set(0, 2, 21), BAD first", x.set(0, 2, 21), -10002);
        for (int a = 0; a < 6; a++) {
            due("6: set(" + a + ", 2, 20)", x.set(a, 2, 20), a == 4 ? 0 : -10003);
        }
        due("6: set(4, 2, 0)", x.set(4, 2, 0), 20);
        due("6: set(4, 2, 5)", x.set(4, 2, 5), 0);
        due("6: set(3, 0, 999)", x.set(3, 0, 999), 0);
        due("6: set(3, 0, -999)", x.set(3, 0, -999), 999);
        due("6: set(3, 1, 30)", x.set(3, 1, 30), 1);
        due("6: set(3, 1, -30)", x.set(3, 1, -30), 30);
        due("6: of(3, 2)", x.of(3, 2), -999);
        due("6: of(3, 3)", x.of(3, 3), -30);
        due("6: of(4, 4)", x.of(4, 4), 5);
        due("6: of(0, 4)", x.of(0, 4), 0);
    }

    private static void promise7() {
        LakeBooks x = new LakeBooks();
        for (int kind = 0; kind < 6; kind++) {
            x.account(kind + 1, 0, 0);
        }
        for (int a = 0; a < 5; a++) {
            due("7: another kind", x.row(a, 0, 1), -3);
        }
        due("7: another kind, BAD first", x.row(0, 0, 10), -2);
        due("7: row(6, 0, 1)", x.row(6, 0, 1), -1);
        due("7: row(-1, 0, 1)", x.row(-1, 0, 1), -1);
        due("7: row(5, 4, 10)", x.row(5, 4, 10), -1);
        due("7: row(5, -1, 1)", x.row(5, -1, 1), -1);
        due("7: row(5, 0, -1)", x.row(5, 0, -1), -2);
        due("7: row(5, 0, 10)", x.row(5, 0, 10), -2);
        due("7: row(5, 0, 9)", x.row(5, 0, 9), 0);
        due("7: row(5, 0, 3)", x.row(5, 0, 3), 9);
        due("7: row(5, 3, 7)", x.row(5, 3, 7), 0);
        due("7: row(5, 3, 0)", x.row(5, 3, 0), 7);
        due("7: of(5, 6)", x.of(5, 6), 3);
    }

    private static void promise8() {
        LakeBooks x = new LakeBooks();
        due("8: water(0)", x.water(0), 200);
        due("8: water(9999)", x.water(9999), 0);
        due("8: the level is 60 at most", x.told(3), 60);
        due("8: water(10000)", x.water(10000), -2);
        due("8: water(-1)", x.water(-1), -2);
        due("8: water(599)", x.water(599), 9999);
        due("8: the level", x.told(3), 59);
        x.water(9);
        due("8: the level", x.told(3), 0);
        x.water(10);
        due("8: the level", x.told(3), 1);
        for (int s = 0; s < 6; s++) {
            x.area(s, 1);
        }
        due("8: the level of 10, 1 a mark", x.told(3), 10);
        x.water(9);
        due("8: the level of 9, 1 a mark", x.told(3), 9);
        x.water(59);
        due("8: the level of 59, 1 a mark", x.told(3), 59);
        x.water(61);
        due("8: the level of 61, 1 a mark", x.told(3), 60);
    }

    private static void promise9() {
        LakeBooks x = new LakeBooks();
        due("9: feed(-1)", x.feed(-1), -2);
        due("9: feed(128)", x.feed(128), -2);
        due("9: feed(0)", x.feed(0), 1);
        due("9: feed(127)", x.feed(127), 2);
        for (int i = 3; i <= 100; i++) {
            due("9: feed", x.feed('a'), i);
        }
        due("9: the 101st", x.feed('a'), -4);
        due("9: the 101st, BAD first", x.feed(200), -2);
        due("9: count(5)", x.count(5), 100);
        due("9: law()", x.law(), -10);
        due("9: count(5) then", x.count(5), 0);
        due("9: feed", x.feed('a'), 1);
    }

    private static void fault(String text, int place) {
        LakeBooks x = new LakeBooks();
        Check.law(x, "mark 33");
        due("10: law() of " + text, Check.law(x, text), -10 - place);
        due("10: THE TEXT is empty behind " + text, x.count(5), 0);
        due("10: the one that held holds behind " + text, x.told(4), 33);
        due("10: LAWS behind " + text, x.count(1), 1);
    }

    private static void promise10Faults() {
        fault("", 0);
        fault("x", 0);
        fault("Spring 1 d=1", 0);
        fault(" spring 1 d=1", 0);
        fault("s", 1);
        fault("sx", 1);
        fault("spun 1 d=1", 2);
        fault("spring", 6);
        fault("springs 1 d=1", 6);
        fault("spring  1 d=1", 7);
        fault("spring d=1", 7);
        fault("spring 1", 8);
        fault("spring 1;mark 2", 8);
        fault("spring 12", 9);
        fault("spring 123 d=1", 9);
        fault("spring 1  d=1", 9);
        fault("spring 1 ", 9);
        fault("spring 1 d", 10);
        fault("spring 1 d!1", 10);
        fault("spring 1 d=", 11);
        fault("spring 1 d=a", 11);
        fault("spring 1 d==1", 11);
        fault("spring 1 d=-1", 11);
        fault("spring 1 d=123", 13);
        fault("spring 1 d=1 ", 12);
        fault("spring 1 d=1)", 12);
        fault("spring 1 d=1&", 13);
        fault("spring 1 d=1&&d=1", 13);
        fault("spring 1 d=1||d=1", 13);
        fault("spring 1 d=1|&d=1", 13);
        fault("spring 1 D=1", 9);
        fault("spring 1 c=1", 9);
        fault("spring 1 !", 10);
        fault("spring 1 ()", 10);
        fault("spring 1 (d=1", 13);
        fault("spring 1 (d=1;", 13);
        fault("spring 1 (d=1))", 14);
        fault("spring 1 !!!!!d=1", 13);
        fault("spring 1 !!!!(d=1)", 13);
        fault("spring 1 (!(!(d=1)))", 13);
        fault("spring 1 ((((d=1|!d=1))))", 17);
        fault("spring 1 d=1&!(!(!(d=1)))", 17);
        fault("su 1", 2);
        fault("sun 1 d=1;", 10);
        fault("sun 1 d=1;;mark 1", 10);
        fault("sun 1 d=1; mark 1", 10);
        fault("sun 1 d=1 ;mark 1", 9);
        fault("mark", 4);
        fault("mark ", 5);
        fault("mark x", 5);
        fault("mark :", 5);
        fault("mark 1:", 6);
        fault("mark /", 5);
        fault("mark 1/", 6);
        fault("mark 1 ", 6);
        fault("mark 1 d=1", 6);
        fault("mark 123", 7);
        fault("ma", 2);
        fault("mork 1", 1);
        fault("flour 1", 3);
        fault("floor1", 5);
        fault("rat 1", 3);
        fault("rate 1;m", 8);
        fault("rate 1&rate 2", 6);
        fault("rate 1;rate 1;rate 1;rate 1;rate 1;rate 1;rate 1;rate 1;rate 1;rate 1;", 69);
        fault("rate 1;rate 1;rate 1;rate 1;rate 1;rate 1;rate 1;rate 1;rate 1;rate 1;rate 1", 69);
        fault("rate 1\u0000", 6);
    }

    private static void promise10Laws() {
        LakeBooks x = new LakeBooks();
        due("10: ten clauses", Check.law(x,
            "rate 1;rate 1;rate 1;rate 1;rate 1;rate 1;rate 1;rate 1;rate 1;rate 99"), 0);
        due("10: the last one's n", x.told(6), 99);
        due("10: four within", Check.law(x, "sun 7 !(!(d=9));spring 3 ((((d=0))))"), 1);
        due("10: RATE of the newest", x.told(6), 0);
        due("10: SPRING", x.told(7), 8);
        due("10: two digits", Check.law(x, "mark 00;spring 07 d=00;spring 70 d<01"), 2);
        due("10: MARK 0", x.told(4), 0);
        due("10: springs together", x.told(7), 82);
        due("10: 100 bytes", Check.law(x, "spring 1 " + "d=1|".repeat(22) + "m=0"), 3);
        due("10: SPRING of 100 bytes", x.told(7), 6);
        x.account(0, 0, 0);
        due("10: ten suns", Check.law(x, "sun 1 d=0" + ";sun 1 d=0".repeat(9)), 4);
        due("10: ten suns", x.of(0, 7), 10);
        Check.law(x, "rate 7;mark 9;floor 8;sun 9 d=0;spring 9 d=0;x");
        due("10: nothing is left of a wrong one", Check.law(x, "spring 2 d>0"), 5);
        due("10: RATE", x.told(6), 0);
        due("10: MARK", x.told(4), 50);
        due("10: FLOOR", x.told(5), 5);
        due("10: SPRING", x.told(7), 5);
        due("10: SUN", x.of(0, 7), 0);
        x = new LakeBooks();
        for (int i = 0; i < 5; i++) {
            due("10: a long wrong one", Check.law(x, "spring 1 " + "d=0|".repeat(22) + "d=x"), -109);
        }
        due("10: nothing is left of long wrong ones", Check.law(x, "spring 1 d=1|d=0"), 0);
        due("10: SPRING", x.told(7), 6);
        x = new LakeBooks();
        due("10: 100 bytes that end too early", Check.law(x, "spring 11 " + "d=1|".repeat(22) + "d<"), -110);
    }

    private static void promise10Precedence() {
        holds("d=0|d=1&d=2", true);
        holds("d=1&d=2|d=0", true);
        holds("(d=0|d=1)&d=2", false);
        holds("!d=0|d=0", true);
        holds("!(d=0|d=0)", false);
        holds("!d=1&d=0", true);
        holds("!!d=0", true);
        holds("!!!d=0", false);
        holds("d=1|d=2|d=0", true);
        holds("d=0&d=0&d=1", false);
        holds("d=0&(d=1|(d=0&!(d=1)))", true);
        holds("d=1|d=0&d=1|d=1&d=0|d=1", false);
        holds("d=1&d=0|d=0&d=0", true);
        holds("d<0", false);
        holds("d<1", true);
        holds("d>0", false);
        holds("m=0&d=0", true);
        holds("l=20", true);
        holds("l>20", false);
        holds("l<21", true);
        holds("a=9&k=9&b=9", true);
        holds("a<9|k<9|b<9", false);
    }

    private static void holds(String test, boolean so) {
        LakeBooks x = new LakeBooks();
        x.account(0, 0, 0);
        x.set(0, 0, 30);
        due("10: " + test, Check.law(x, "spring 10 " + test), 0);
        due("10: " + test + " holds", x.told(7), so ? 15 : 5);
    }

    private static void promise11() {
        LakeBooks x = new LakeBooks();
        for (int i = 0; i < 6; i++) {
            due("11: law()", Check.law(x, "mark " + (20 + i)), i);
        }
        Check.feed(x, "mark 9x");
        due("10: the seventh", x.law(), -4);
        due("10: THE TEXT stays", x.count(5), 7);
        due("11: MARK", x.told(4), 25);
        due("11: told(-1)", x.told(-1), -1);
        due("11: told(8)", x.told(8), -1);
        due("11: told(9)", x.told(9), -1);
        due("11: told(16)", x.told(16), -1);
        LakeBooks y = new LakeBooks();
        Check.law(y, "mark 61;floor 60;rate 60;mark 99;floor 61");
        due("11: MARK is 60 at most", y.told(4), 60);
        due("11: FLOOR is 60 at most", y.told(5), 60);
        due("11: RATE is no mark", y.told(6), 60);
        y.area(5, 3);
        due("11: told(15)", y.told(15), 3);
        Check.law(y, "spring 1 d=3;spring 2 m=1;spring 8 d<4&d>1");
        due("11: FLOOR without", y.told(5), 5);
        int[] springs = {5, 5, 13, 14, 5, 5, 5, 5, 5, 5, 7, 7, 15};
        for (int day = 0; day < springs.length; day++) {
            due("11: DAY", y.told(0), day);
            due("11: SPRING on day " + day, y.told(7), springs[day]);
            y.day();
        }
    }
}
