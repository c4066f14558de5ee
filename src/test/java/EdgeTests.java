/** The edges that promises 1 to 11 and the words that they use name: the last that is taken, the first that is not. */
public final class EdgeTests {
    private static final Check CHECK = new Check("EdgeTests");

    private static void due(String call, long got, long want) {
        CHECK.due(call, got, want);
    }

    public static void main(String[] args) {
        nothingYet();
        areas();
        volumes();
        levels();
        accounts();
        kinds();
        sets();
        rows();
        waters();
        interest();
        pours();
        suns();
        marksAndFloors();
        calls512();
        CHECK.end();
    }

    private static void nothingYet() {
        LakeBooks x = new LakeBooks();
        due("1: dry()", x.dry(), -5);
        due("1: lowest(40)", x.lowest(40), 0);
        due("1: ruined(0)", x.ruined(0), -5);
        due("1: lifted()", x.lifted(), 0);
        due("1: wells(1)", x.wells(1), 0);
        due("1: richest(0)", x.richest(0), -5);
        due("1: whose()", x.whose(), 0);
        due("1: odds(1, 0)", x.odds(1, 0), 0);
        due("1: odds(1, 1)", x.odds(1, 1), 1);
        due("1: planned(0)", x.planned(0), 200);
        due("1: planned(1)", x.planned(1), 20);
        due("1: looked()", x.looked(), -5);
        due("1: judge(0, 0)", x.judge(0, 0), -5);
        due("1: image()", x.image(), 0);
        due("1: undo()", x.undo(), 0);
        due("1: law() of an empty TEXT", x.law(), -10);
        due("1: count(1)", x.count(1), 0);
    }

    private static void areas() {
        for (int step = 0; step < 6; step++) {
            LakeBooks x = new LakeBooks();
            due("2: area(" + step + ", 1)", x.area(step, 1), 10);
            due("2: area(" + step + ", 20)", x.area(step, 20), 1);
            due("2: area(" + step + ", 0)", x.area(step, 0), -2);
            due("2: area(" + step + ", 21)", x.area(step, 21), -2);
            for (int other = 0; other < 6; other++) {
                due("11: told(1" + other + ")", x.told(10 + other), other == step ? 20 : 10);
            }
            due("3: volume(60)", x.volume(60), 700);
            due("3: volume up to the step", x.volume(10 * step), 100 * step);
            due("3: volume with the step", x.volume(10 * step + 10), 100 * step + 200);
        }
    }

    private static void volumes() {
        for (int area : new int[] {1, 20}) {
            LakeBooks x = new LakeBooks();
            for (int step = 0; step < 6; step++) {
                x.area(step, area);
            }
            for (int m = 0; m <= 60; m++) {
                due("3: volume(" + m + ") of area " + area, x.volume(m), m * area);
            }
            due("3: volume(-1)", x.volume(-1), -2);
            due("3: volume(61)", x.volume(61), -2);
        }
    }

    /** THE LEVEL is the most MARKS whose VOLUME is no more: at each mark's edge, in steps of unlike areas. */
    private static void levels() {
        LakeBooks x = new LakeBooks();
        for (int step = 0; step < 6; step++) {
            x.area(step, 2 + 3 * step);
        }
        for (int m = 1; m <= 60; m++) {
            x.water(x.volume(m));
            due("11: the level is " + m, x.told(3), m);
            x.water(x.volume(m) - 1);
            due("11: one bucket less than mark " + m, x.told(3), m - 1);
        }
        x.water(0);
        due("11: no water", x.told(3), 0);
        x.water(x.volume(60) + 1);
        due("11: one bucket more than all", x.told(3), 60);
        x.water(9999);
        due("11: all water", x.told(3), 60);
    }

    private static void accounts() {
        LakeBooks x = new LakeBooks();
        due("4: KIND 0, v 0, DAILY -30", x.account(0, 0, -30), 0);
        due("4: KIND 6, v 9, DAILY 30", x.account(6, 9, 30), 1);
        due("4: KIND -1", x.account(-1, 0, 0), -1);
        due("4: KIND 7", x.account(7, 0, 0), -1);
        due("4: v -1", x.account(0, -1, 0), -2);
        due("4: v 10", x.account(0, 10, 0), -2);
        due("4: DAILY -31", x.account(0, 0, -31), -2);
        due("4: DAILY 31", x.account(0, 0, 31), -2);
        due("4: refusals took no number", x.account(1, 1, 1), 2);
        due("5: the next is not there", x.of(3, 0), -10001);
        due("4: a fourth", x.account(3, 3, 3), 3);
        due("5: now it is", x.of(3, 0), 3);
        due("4: a fifth", x.account(4, 4, 4), 4);
        due("4: a sixth, the last", x.account(5, 5, 5), 5);
        due("4: a seventh", x.account(0, 0, 0), -4);
        due("39: count(0)", x.count(0), 6);
        int[] kinds = {0, 6, 1, 3, 4, 5}, dailies = {-30, 30, 1, 3, 4, 5};
        for (int a = 0; a < 6; a++) {
            due("5: KIND of " + a, x.of(a, 0), kinds[a]);
            due("5: DAILY of " + a, x.of(a, 3), dailies[a]);
            due("5: BUCKETS of " + a + " at first", x.of(a, 2), 0);
            due("5: STONES of " + a + " at first", x.of(a, 4), 0);
            due("5: of(" + a + ", -1)", x.of(a, -1), -10001);
            due("5: of(" + a + ", 8)", x.of(a, 8), -10001);
        }
    }

    /** What each of the seven KINDS lifts, pours, and may have. */
    private static void kinds() {
        int[] lifts = {0, 0, 0, 9, 0, 0, 9}, pours = {30, 30, 21, 30, 30, 21, 30};
        for (int kind = 0; kind <= 6; kind++) {
            LakeBooks x = new LakeBooks();
            x.account(kind, 9, 30);
            due("5: LIFTS of KIND " + kind, x.of(0, 5), lifts[kind]);
            due("5: POURS of KIND " + kind, x.of(0, 6), pours[kind]);
            due("6: STONES of KIND " + kind, x.set(0, 2, 20), kind == 4 ? 0 : -10003);
            due("7: ROW of KIND " + kind, x.row(0, 0, 9), kind == 6 ? 0 : -3);
            due("5: LIFTS of KIND " + kind, x.of(0, 5), kind == 4 ? 100 : lifts[kind]);
            due("5: POURS of KIND " + kind, x.of(0, 6), kind == 6 ? 39 : pours[kind]);
            x.set(0, 1, -30);
            due("5: draws of KIND " + kind, x.of(0, 6), pours[kind] - 60 + (kind == 6 ? 9 : 0));
        }
    }

    private static void sets() {
        LakeBooks x = new LakeBooks();
        for (int a = 0; a < 6; a++) {
            x.account(4, 0, 0);
        }
        int[][] edges = {{-999, 999}, {-30, 30}, {0, 20}};
        for (int a = 0; a < 6; a++) {
            for (int what = 0; what <= 2; what++) {
                due("6: the least", x.set(a, what, edges[what][0]), 0);
                due("6: the most", x.set(a, what, edges[what][1]), edges[what][0]);
                due("6: below", x.set(a, what, edges[what][0] - 1), -10002);
                due("6: above", x.set(a, what, edges[what][1] + 1), -10002);
                due("5: as it became", x.of(a, 2 + what), edges[what][1]);
            }
        }
        due("6: account 6", x.set(6, 0, 0), -10001);
        due("6: account -1", x.set(-1, 0, 0), -10001);
        due("6: what 3", x.set(5, 3, 0), -10001);
        due("6: what -1", x.set(0, -1, 0), -10001);
        x.set(0, 2, 1);
        due("5: one stone lifts 5", x.of(0, 5), 5);
        x.set(0, 2, 0);
        due("5: no stone lifts", x.of(0, 5), 0);
    }

    private static void rows() {
        LakeBooks x = new LakeBooks();
        x.account(6, 0, 0);
        for (int part = 0; part < 4; part++) {
            due("7: 0 at first", x.row(0, part, 9), 0);
            due("7: row(0, " + part + ", 0)", x.row(0, part, 0), 9);
            due("7: row(0, " + part + ", -1)", x.row(0, part, -1), -2);
            due("7: row(0, " + part + ", 10)", x.row(0, part, 10), -2);
            due("7: as it was", x.row(0, part, part + 1), 0);
        }
        due("7: part -1", x.row(0, -1, 0), -1);
        due("7: part 4", x.row(0, 4, 0), -1);
        for (int day = 0; day < 12; day++) {
            due("5: the ROW on day " + day, x.of(0, 6), day % 4 + 1);
            x.day();
        }
    }

    private static void waters() {
        LakeBooks x = new LakeBooks();
        due("8: 200 at first", x.water(9999), 200);
        due("8: the most", x.water(0), 9999);
        due("8: the least", x.water(-1), -2);
        due("8: above", x.water(10000), -2);
        due("11: as it was", x.told(1), 0);
    }

    /** RATE hundredths of BUCKETS that are above 0, cut. */
    private static void interest() {
        int[][] rows = {{1, 99, 0}, {1, 100, 1}, {1, 199, 1}, {1, 200, 2}, {99, 1, 0}, {99, 2, 1}, {99, 999, 989},
            {50, 1, 0}, {50, 2, 1}, {50, 0, 0}, {50, -1, 0}, {50, -2, 0}, {99, -999, 0}, {0, 999, 0}, {7, 999, 69}};
        for (int[] row : rows) {
            for (int kind : new int[] {1, 4}) {
                LakeBooks x = new LakeBooks();
                x.account(kind, 9, -4);
                Check.law(x, "rate " + row[0]);
                x.set(0, 0, row[1]);
                due("5: RATE " + row[0] + " of " + row[1], x.of(0, 6), row[2] - 4);
            }
            for (int kind : new int[] {0, 3, 6}) {
                LakeBooks x = new LakeBooks();
                x.account(kind, 9, -4);
                Check.law(x, "rate " + row[0]);
                x.set(0, 0, row[1]);
                due("5: no interest for KIND " + kind, x.of(0, 6), -4);
            }
        }
        LakeBooks x = new LakeBooks();
        x.account(1, 0, 3);
        x.set(0, 0, 999);
        due("11: RATE is 0 without a law", x.told(6), 0);
        due("5: no interest without a law", x.of(0, 6), 3);
        Check.law(x, "mark 30");
        due("11: RATE is 0 without a clause", x.told(6), 0);
        due("5: no interest without a clause", x.of(0, 6), 3);
    }

    /** LEAKING is 1 less if THE LEVEL, its LIFTS too, is above 30. */
    private static void pours() {
        LakeBooks x = new LakeBooks();
        x.account(5, 4, 10);
        int[][] rows = {{0, 6}, {309, 6}, {310, 5}, {9999, 5}, {300, 6}};
        for (int[] row : rows) {
            x.water(row[0]);
            due("5: LEAKING with WATER " + row[0], x.of(0, 6), row[1]);
        }
        x.account(3, 9, 0);
        due("5: LEAKING when THE LEVEL is 30", x.of(0, 6), 6);
        x.account(3, 1, 0);
        due("11: THE LEVEL with LIFTS", x.told(3), 31);
        due("5: LEAKING when LIFTS make it 31", x.of(0, 6), 5);
    }

    private static void suns() {
        LakeBooks x = new LakeBooks();
        x.account(0, 0, 0);
        due("5: no sun without a law", x.of(0, 7), 0);
        Check.law(x, "sun 0 d=0");
        due("5: sun 0", x.of(0, 7), 0);
        Check.law(x, "sun 99 d=0;spring 99 d=0;sun 9 d=1");
        due("5: sun 99", x.of(0, 7), 99);
        due("11: spring 99", x.told(7), 104);
        StringBuilder text = new StringBuilder("sun 99 d=0");
        for (int c = 1; c < 9; c++) {
            text.append(";sun 99 d=0");
        }
        due("10: nine suns", Check.law(x, text.toString()), 2);
        due("5: nine suns together", x.of(0, 7), 891);
        due("11: SPRING is 5 without a clause", x.told(7), 5);
    }

    private static void marksAndFloors() {
        LakeBooks x = new LakeBooks();
        due("11: MARK without a law", x.told(4), 50);
        due("11: FLOOR without a law", x.told(5), 5);
        Check.law(x, "rate 99");
        due("11: MARK without a clause", x.told(4), 50);
        due("11: FLOOR without a clause", x.told(5), 5);
        due("11: RATE 99", x.told(6), 99);
        Check.law(x, "mark 60;floor 60;rate 0");
        due("11: MARK 60", x.told(4), 60);
        due("11: FLOOR 60", x.told(5), 60);
        due("11: RATE 0", x.told(6), 0);
        Check.law(x, "mark 59;floor 59;rate 1;mark 61;floor 61;rate 61");
        due("11: MARK of 61", x.told(4), 60);
        due("11: FLOOR of 61", x.told(5), 60);
        due("11: RATE of 61", x.told(6), 61);
        Check.law(x, "mark 99;floor 99;rate 99;mark 59;floor 59;rate 9");
        due("11: MARK 59, the last one's", x.told(4), 59);
        due("11: FLOOR 59, the last one's", x.told(5), 59);
        due("11: RATE 9, the last one's", x.told(6), 9);
        Check.law(x, "mark 0;floor 00");
        due("11: MARK 0", x.told(4), 0);
        due("11: FLOOR 0", x.told(5), 0);
        Check.law(x, "spring 1 d=0");
        due("11: MARK of the newest is 50 again", x.told(4), 50);
        due("11: FLOOR of the newest is 5 again", x.told(5), 5);
    }

    /** The 512th call of an object is answered as the first is. */
    private static void calls512() {
        LakeBooks x = new LakeBooks();
        for (int call = 1; call <= 512; call++) {
            due("1: day " + call, x.day(), Math.min(50, (200 + 5 * call) / 10));
        }
        x = new LakeBooks();
        for (int call = 1; call <= 512; call++) {
            due("9: sign " + call, x.feed('a'), call <= 100 ? call : -4);
        }
        x = new LakeBooks();
        for (int call = 1; call <= 512; call++) {
            due("10: law " + call, x.law(), -10);
        }
        x = new LakeBooks();
        for (int call = 1; call <= 512; call++) {
            due("4: account " + call, x.account(0, 0, 0), call <= 6 ? call - 1 : -4);
        }
        x = new LakeBooks();
        for (int call = 1; call <= 512; call++) {
            due("34: image or undo " + call, call % 2 == 1 ? x.image() : x.undo(), 0);
        }
        x = new LakeBooks();
        for (int call = 1; call <= 512; call++) {
            due("40: tape " + call, x.tape(call % 6, call % 5, 60), 1);
        }
    }
}
