import java.lang.reflect.Field;

/** The edges of a day that goes, and of what is asked by days (promises 12 to 23). */
public final class DayEdgeTests {
    private static final Check CHECK = new Check("DayEdgeTests");
    private static final long NO = Long.MIN_VALUE;

    private static void due(String call, long got, long want) {
        CHECK.due(call, got, want);
    }

    public static void main(String[] args) throws Exception {
        draws();
        drawsInTurn();
        suns();
        marks();
        bucketsHeldAbove();
        bucketsHeldBelow();
        townHeld();
        on();
        dry();
        lowest();
        ruined();
        may();
        enough();
        lifted();
        without();
        wells();
        share();
        richest();
        beyondTheLastDay();
        CHECK.end();
    }

    private static LakeBooks lake(int water, int... dailies) {
        LakeBooks x = new LakeBooks();
        x.water(water);
        for (int daily : dailies) {
            x.account(0, 0, daily);
        }
        return x;
    }

    /** WATER ahead, FLOOR, what is drawn of 10, WATER behind. */
    private static void draws() {
        int[][] rows = {{61, 5, 10, 56}, {60, 5, 10, 55}, {59, 5, 9, 55}, {51, 5, 1, 55}, {50, 5, 0, 55},
            {49, 5, 0, 54}, {0, 5, 0, 5}, {11, 0, 10, 6}, {10, 0, 10, 5}, {9, 0, 9, 5}, {1, 0, 1, 5}, {0, 0, 0, 5},
            {600, 60, 0, 600}, {601, 60, 1, 600}, {599, 60, 0, 600}, {594, 60, 0, 599}};
        for (int[] row : rows) {
            LakeBooks x = lake(row[0], -10);
            Check.law(x, "mark 60;floor " + row[1]);
            x.day();
            due("12: drawn of WATER " + row[0] + " above FLOOR " + row[1], x.of(0, 2), -row[2]);
            due("12: WATER behind " + row[0] + " above FLOOR " + row[1], x.told(1), row[3]);
        }
        LakeBooks x = lake(0, 30);
        x.day();
        due("12: pours below the floor", x.of(0, 2), 30);
        due("12: WATER", x.told(1), 35);
        x = lake(50, 0);
        x.day();
        due("12: neither pours nor draws", x.of(0, 2), 0);
        x = lake(49);
        x.account(3, 9, -10);
        x.day();
        due("12: LIFTS are no water to draw", x.of(0, 2), 0);
    }

    private static void drawsInTurn() {
        LakeBooks x = lake(50, 8, -30);
        x.day();
        due("12: poured, then drawn", x.of(1, 2), -8);
        due("12: WATER", x.told(1), 55);
        x = lake(50, -30, 8);
        x.day();
        due("12: nothing to draw, then poured", x.of(0, 2), 0);
        due("12: WATER", x.told(1), 63);
        x = lake(65, -10, -10, -10);
        x.day();
        due("12: the first draws all", x.of(0, 2), -10);
        due("12: the second what is left", x.of(1, 2), -5);
        due("12: the third nothing", x.of(2, 2), 0);
        x = lake(60, 0, -10);
        Check.law(x, "sun 9 a=0");
        x.day();
        due("12: sun is behind all pours", x.of(1, 2), -10);
        due("12: WATER", x.told(1), 50 - 9 + 5);
        x = lake(45, -10);
        Check.law(x, "spring 90 d=0");
        x.day();
        due("12: spring is behind all pours", x.of(0, 2), 0);
    }

    private static void suns() {
        int[][] rows = {{21, 6}, {20, 5}, {19, 5}, {0, 5}};
        for (int[] row : rows) {
            LakeBooks x = lake(row[0], 0);
            Check.law(x, "sun 20 a=0");
            x.day();
            due("12: WATER of " + row[0] + " less 20", x.told(1), row[1]);
            due("12: charged in full", x.of(0, 2), -20);
        }
        LakeBooks x = lake(30, 0, 0);
        Check.law(x, "sun 20 a<2");
        x.day();
        due("12: WATER less 20 and 20 is 0 at least", x.told(1), 5);
        due("12: the first is charged", x.of(0, 2), -20);
        due("12: the second is charged", x.of(1, 2), -20);
        x = lake(190, 10);
        Check.law(x, "spring 20 l>19");
        x.day();
        due("12: spring by THE LEVEL ahead, 19, not by what is poured", x.told(1), 190 + 10 + 5);
        x.set(0, 1, -10);
        x.day();
        due("12: spring by THE LEVEL ahead, 20, not by what is drawn", x.told(1), 205 - 10 + 25);
        x = lake(299, 30);
        Check.law(x, "sun 7 l>29;sun 1 m=0");
        x.day();
        due("12: sun by THE LEVEL ahead, 29", x.of(0, 2), 30 - 1);
        x.day();
        due("12: sun by THE LEVEL ahead, above 29", x.of(0, 2), 29 + 30 - 8);
        x.water(300);
        x.day();
        due("12: sun by THE LEVEL ahead, 30", x.of(0, 2), 51 + 30 - 8);
        x = lake(290, 0);
        x.account(3, 9, 0);
        Check.law(x, "sun 7 l=29");
        x.day();
        due("12: both are charged", x.told(1), 290 - 14 + 5);
        x.day();
        due("12: sun by THE LEVEL with LIFTS, 29 again", x.of(0, 2), -14);
        x = lake(30, 30);
        Check.law(x, "sun 30 a=0");
        x.day();
        due("12: what is poured is charged", x.told(1), 35);
        due("12: BUCKETS", x.of(0, 2), 0);
    }

    /** WATER ahead, MARK, TOWN behind. */
    private static void marks() {
        int[][] rows = {{194, 20, 0}, {195, 20, 0}, {196, 20, 1}, {200, 20, 5}, {0, 0, 5}, {9999, 50, 9504},
            {595, 60, 0}, {596, 60, 1}, {4, 1, 0}, {5, 1, 0}, {6, 1, 1}};
        for (int[] row : rows) {
            LakeBooks x = lake(row[0]);
            Check.law(x, "mark " + row[1]);
            int level = x.day();
            due("12: TOWN behind " + row[0] + " with MARK " + row[1], x.told(2), row[2]);
            due("12: WATER then", x.told(1), row[0] + 5 - row[2]);
            due("12: THE LEVEL then", level, (row[0] + 5 - row[2]) / 10);
        }
        LakeBooks x = lake(200);
        x.account(3, 9, 0);
        Check.law(x, "mark 20;spring 1 d=0");
        due("12: LIFTS spill nothing", x.day(), 20);
        due("12: WATER is what is held to MARK", x.told(1), 200);
        due("12: TOWN", x.told(2), 6);
    }

    /** A SAVING one with 7872 BUCKETS; each of these days is by the document's words. */
    private static LakeBooks rich() {
        LakeBooks x = lake(200);
        x.account(1, 0, 0);
        Check.law(x, "rate 99");
        x.set(0, 0, 999);
        int[] buckets = {999 + 989, 1988 + 1968, 3956 + 3916};
        for (int due : buckets) {
            x.day();
            due("12: BUCKETS", x.of(0, 2), due);
        }
        return x;
    }

    private static void bucketsHeldAbove() {
        // 27 hundredths of 7872 are 2125: with a DAILY of 2 these are 9999.
        int[][] rows = {{1, 9998}, {2, 9999}, {3, 9999}, {30, 9999}};
        for (int[] row : rows) {
            LakeBooks x = rich();
            Check.law(x, "rate 27");
            x.set(0, 1, row[0]);
            x.day();
            due("12: BUCKETS with DAILY " + row[0], x.of(0, 2), row[1]);
            Check.law(x, "rate 0");
            x.set(0, 1, -1);
            x.water(200);
            x.day();
            due("12: then one less", x.of(0, 2), row[1] - 1);
        }
        LakeBooks x = rich();
        Check.law(x, "rate 27;sun 5 a=0");
        x.set(0, 1, 7);
        x.day();
        due("12: held behind pours and sun", x.of(0, 2), 9999);
        Check.law(x, "sun 4 a=0");
        x.set(0, 1, 4);
        x.day();
        due("12: not held between these", x.of(0, 2), 9999);
        Check.law(x, "sun 5 a=0");
        x.day();
        due("12: less sun", x.of(0, 2), 9998);
        due("13: on() is held likewise", x.on(40, 10), 9998 - 40);
        due("31: book(0, 9999)", x.book(0, 9999), 1);
    }

    private static void bucketsHeldBelow() {
        int[][] rows = {{287, -9998}, {288, -9999}, {289, -9999}, {386, -9999}};
        for (int[] row : rows) {
            LakeBooks x = lake(0, 0, 0);
            Check.law(x, "sun 99 a=0" + ";sun 99 a=0".repeat(7));
            x.set(0, 0, -999);
            for (int day = 0; day < 11; day++) {
                x.day();
            }
            due("12: BUCKETS far below 0", x.of(0, 2), -9711);
            due("13: on() is held likewise", x.on(1, 10), -9999);
            Check.law(x, "sun 99 a=0;sun 99 a=0;sun 89 a=0;sun " + (row[0] - 287) + " a=0");
            x.day();
            due("12: BUCKETS less " + row[0], x.of(0, 2), row[1]);
            Check.law(x, "mark 50");
            x.set(0, 1, 1);
            x.day();
            due("12: then one more", x.of(0, 2), row[1] + 1);
            due("12: another's are its own", x.of(1, 2), 0);
        }
    }

    private static void townHeld() {
        int[][] rows = {{5453, 99998}, {5454, 99999}, {5455, 99999}, {9999, 99999}};
        for (int[] row : rows) {
            LakeBooks x = lake(9999);
            for (int day = 0; day < 10; day++) {
                x.water(9999);
                x.day();
            }
            due("12: TOWN", x.told(2), 95040);
            x.water(row[0]);
            due("13: on() is held likewise", x.on(1, 2), row[1]);
            x.day();
            due("12: TOWN behind " + row[0], x.told(2), row[1]);
            due("12: WATER is at MARK", x.told(1), 500);
            x.day();
            due("12: TOWN is held on", x.told(2), 99999);
            due("12: WATER is at MARK", x.told(1), 500);
        }
    }

    private static void on() {
        LakeBooks x = lake(100, -6, 2);
        for (int n : new int[] {0, 1, 39, 40}) {
            due("13: WATER", x.on(n, 0), 100 + n);
            due("13: THE LEVEL", x.on(n, 1), (100 + n) / 10);
            due("13: TOWN", x.on(n, 2), 0);
            due("13: BUCKETS of 0", x.on(n, 10), -6 * n);
            due("13: BUCKETS of 1", x.on(n, 11), 2 * n);
        }
        due("13: on(41, 0)", x.on(41, 0), -10002);
        due("13: on(-1, 0)", x.on(-1, 0), -10002);
        due("13: BUCKETS of nobody", x.on(0, 12), -10001);
        due("13: what 9", x.on(0, 9), -10001);
        x = lake(200, 1, 2, 3, 4, 5, 6);
        due("13: BUCKETS of the sixth", x.on(40, 15), 240);
        due("13: BUCKETS of a seventh", x.on(40, 16), -10001);
    }

    private static void dry() {
        due("14: dry now", lake(59, -6).dry(), 0);
        due("14: dry behind 1", lake(60, -6).dry(), 1);
        due("14: dry behind 59", lake(118, -6).dry(), 59);
        due("14: dry behind 60", lake(119, -6).dry(), 60);
        due("14: dry behind 61", lake(120, -6).dry(), -5);
        LakeBooks x = lake(9999);
        Check.law(x, "floor 60;mark 60");
        due("14: no level is above 60", x.dry(), 0);
        x = lake(9);
        Check.law(x, "floor 0");
        due("14: level 0, FLOOR 0", x.dry(), 0);
        x.water(10);
        due("14: level 1, FLOOR 0", x.dry(), -5);
        x = lake(59);
        x.account(3, 1, 0);
        due("14: lifted above FLOOR", x.dry(), -5);
    }

    private static void lowest() {
        LakeBooks x = lake(119, -6);
        int[][] rows = {{0, 0}, {1, 0}, {9, 0}, {10, 10}, {19, 10}, {20, 20}, {29, 20}, {39, 30}, {40, 40}};
        for (int[] row : rows) {
            due("15: lowest(" + row[0] + ")", x.lowest(row[0]), row[1]);
        }
        due("15: always higher", lake(0).lowest(40), 0);
        x = lake(105, 0);
        Check.law(x, "sun 90 a=0&d=8");
        due("15: behind the last one asked", x.lowest(9), 9);
        due("15: not behind one more", x.lowest(8), 0);
        x = lake(110, 0);
        Check.law(x, "sun 10 a=0&d=0;sun 10 a=0&d=2");
        due("15: of several the fewest", x.lowest(3), 1);
    }

    private static void ruined() {
        LakeBooks x = lake(200, -1, -1);
        due("16: behind 1, of both the first", x.ruined(0), 0);
        due("16: behind 60, of both the first", x.ruined(59), 0);
        due("16: behind 61", x.ruined(60), -5);
        x.set(1, 0, -1);
        due("16: now, the second", x.ruined(0), 1);
        due("16: earlier, the second", x.ruined(1), 1);
        due("16: behind 60, the second", x.ruined(60), 1);
        due("16: behind 61", x.ruined(61), -5);
        x.set(1, 0, -999);
        due("16: below -998 now", x.ruined(998), 1);
        due("16: not below -999 now, but behind 1", x.ruined(999), 1);
        x.set(1, 1, 0);
        due("16: never below -999", x.ruined(999), -5);
        x = lake(200, 0);
        due("16: 0 is not below 0", x.ruined(0), -5);
        x.set(0, 0, -1);
        due("16: -1 is below 0", x.ruined(0), 0);
        due("16: -1 is not below -1", x.ruined(1), -5);
        x = lake(200, 1, 1, 1, 1, 1, 1);
        x.set(5, 0, -5);
        due("16: the sixth", x.ruined(4), 5);
        x = lake(200, -1);
        x.set(0, 0, 5);
        x.account(1, 0, 1);
        due("16: below, then above again", x.ruined(0), 0);
    }

    private static void may() {
        due("17: one more than the least", lake(84, 9).may(0, 1), -29);
        due("17: the least", lake(85, 9).may(0, 1), -30);
        due("17: the least, and more would do", lake(86, 9).may(0, 1), -30);
        due("17: the most", lake(25, 9).may(0, 1), 30);
        due("17: more than the most", lake(24, 30).may(0, 1), -5000);
        due("17: one less than the most", lake(26, 9).may(0, 1), 29);
        due("17: 11 days", lake(131, 9).may(0, 11), -11);
        due("17: 12 days", lake(131, 9).may(0, 12), -10);
        due("17: 13 days", lake(131, 9).may(0, 13), -10002);
        due("17: 0 days", lake(131, 9).may(0, 0), -10002);
        LakeBooks x = lake(9999, 0);
        Check.law(x, "floor 60;mark 60");
        due("17: no level is above 60", x.may(0, 1), -5000);
        x = lake(131, 0, 0, 0, 0, 0, 9);
        x.set(5, 1, 0);
        due("17: of the sixth", x.may(5, 12), -10);
        due("17: of a seventh", x.may(6, 12), -10001);
    }

    private static void enough() {
        LakeBooks x = lake(200, 1);
        due("18: now", x.enough(0, 0), 0);
        due("18: behind 1", x.enough(0, 1), 1);
        due("18: behind 59", x.enough(0, 59), 59);
        due("18: behind 60", x.enough(0, 60), 60);
        due("18: behind 61", x.enough(0, 61), -5);
        due("18: the least q", x.enough(0, -999), 0);
        due("18: below the least q", x.enough(0, -1000), -2);
        x.set(0, 0, 939);
        due("18: the most q behind 60", x.enough(0, 999), 60);
        due("18: above the most q", x.enough(0, 1000), -2);
        x.set(0, 0, 938);
        due("18: the most q behind 61", x.enough(0, 999), -5);
        x.set(0, 0, 999);
        due("18: the most q now", x.enough(0, 999), 0);
        x.set(0, 0, -999);
        due("18: the least q now", x.enough(0, -999), 0);
        due("18: -998 behind 1", x.enough(0, -998), 1);
        x.set(0, 1, -1);
        x.set(0, 0, 5);
        due("18: more now than then", x.enough(0, 5), 0);
        due("18: never more", x.enough(0, 6), -5);
    }

    private static void lifted() {
        int[][] rows = {{208, 1, 0}, {209, 1, 1}, {599, 1, 1}, {600, 1, 0}, {600, 9, 0}, {9999, 9, 0}, {0, 9, 0},
            {1, 9, 1}};
        for (int[] row : rows) {
            LakeBooks x = lake(row[0]);
            x.account(3, row[1], 0);
            due("19: lifted by " + row[1] + " from " + row[0], x.lifted(), row[2]);
        }
        LakeBooks x = lake(0);
        for (int step = 0; step < 6; step++) {
            x.area(step, 1);
        }
        x.account(4, 0, 0);
        x.set(0, 2, 11);
        due("19: 11 stones", x.lifted(), 55);
        x.set(0, 2, 12);
        due("19: 12 stones, to the top", x.lifted(), 60);
        x.set(0, 2, 20);
        due("19: 20 stones, 60 at most", x.lifted(), 60);
        x.water(59);
        due("19: one mark is left", x.lifted(), 1);
        x.water(60);
        due("19: none is left", x.lifted(), 0);
    }

    private static void without() {
        LakeBooks x = lake(100, 3);
        due("20: behind 1", x.without(0, 1), 3);
        due("20: behind 40", x.without(0, 40), 120);
        due("20: behind 0", x.without(0, 0), -100002);
        due("20: behind 41", x.without(0, 41), -100002);
        x.set(0, 1, -3);
        due("20: may be below 0", x.without(0, 40), -120);
        x.set(0, 1, 0);
        due("20: 0", x.without(0, 40), 0);
        due("20: nobody", x.without(1, 1), -100001);
        x = lake(500, 30);
        due("20: no more than MARK", x.without(0, 40), 0);
        x = lake(300);
        x.account(5, 0, 0);
        x.account(4, 0, 0);
        x.set(1, 2, 2);
        due("20: without its LIFTS another leaks less", x.without(1, 1), -1);
        x = lake(100, 0, 0, 0, 0, 0, 4);
        due("20: of the sixth", x.without(5, 40), 160);
        due("20: of a seventh", x.without(6, 40), -100001);
        x = lake(200, -30);
        for (int a = 1; a < 6; a++) {
            x.account(1, 0, 0);
            x.set(a, 0, 999);
        }
        Check.law(x, "rate 99");
        due("20: another's interest is its own", x.without(0, 1), 0);
    }

    private static void wells() {
        int[][] rows = {{55, 0}, {54, 1}, {53, 2}, {9999, 0}, {0, 55}};
        for (int[] row : rows) {
            due("21: wells(1) of " + row[0], lake(row[0]).wells(1), row[1]);
        }
        int[][] tops = {{5, 98}, {4, 99}, {3, -5}, {0, -5}};
        for (int[] row : tops) {
            LakeBooks x = lake(row[0]);
            x.area(0, 18);
            due("21: up to 108 of " + row[0], x.wells(1), row[1]);
            due("21: on the first of 10", x.wells(10), row[1]);
        }
        LakeBooks x = lake(105, -10);
        due("21: 9 days", x.wells(9), 0);
        due("21: 10 days", x.wells(10), 1);
        due("21: 11 days", x.wells(11), -2);
        due("21: 0 days", x.wells(0), -2);
        Check.law(x, "floor 60;mark 60");
        due("21: no level is above 60", x.wells(1), -5);
    }

    private static void share() {
        LakeBooks x = lake(200, 0, 0, 0);
        Check.law(x, "sun 1 a=0;sun 1 a=1&d=9");
        long[][] rows = {{1, 9, 0, 1}, {1, 10, 1, 11}, {1, 39, 1, 14}, {1, 40, 1, 11}, {0, 1, 1, 1}, {0, 9, 1, 1},
            {0, 40, 10, 11}, {2, 40, 0, 1}, {0, 10, 10, 11}};
        for (long[] row : rows) {
            int account = (int) row[0], n = (int) row[1];
            due("22: share(" + account + ", " + n + ", 0)", x.share(account, n, 0), row[2]);
            due("22: share(" + account + ", " + n + ", 1)", x.share(account, n, 1), row[3]);
        }
        due("22: 0 days", x.share(0, 0, 0), NO);
        due("22: 41 days", x.share(0, 41, 0), NO);
        due("22: nobody", x.share(3, 40, 0), NO);
        due("22: part -1", x.share(0, 40, -1), NO);
        due("22: part 2", x.share(0, 40, 2), NO);
        Check.law(x, "sun 1 a=0&d=9");
        due("22: no sun in 9 days", x.share(0, 9, 0), NO);
        due("22: no sun in 9 days", x.share(0, 9, 1), NO);
        due("22: some sun in 10 days", x.share(0, 10, 0), 1);
        x.water(0);
        due("22: sun of no water", x.share(0, 10, 1), 1);
        Check.law(x, "sun 0 a=0");
        due("22: sun that is 0", x.share(0, 10, 0), NO);
    }

    private static void richest() {
        LakeBooks x = lake(200, 0, 1);
        x.set(0, 0, 40);
        due("23: now", x.richest(0), 0);
        due("23: behind 39", x.richest(39), 0);
        due("23: behind 40 both, the first", x.richest(40), 0);
        due("23: behind 41", x.richest(41), -2);
        x.set(0, 0, 39);
        due("23: behind 39 both, the first", x.richest(39), 0);
        due("23: behind 40", x.richest(40), 1);
        due("23: behind -1", x.richest(-1), -2);
        x = lake(200, 0, 0, 0, 0, 0, 0);
        due("23: all alike, the first", x.richest(40), 0);
        x.set(5, 0, 1);
        due("23: the sixth", x.richest(40), 5);
        x = lake(200, -1);
        due("23: one alone", x.richest(40), 0);
        due("23: nobody", lake(200).richest(40), -5);
    }

    /** No run of 512 calls gets there, so the test puts the day itself: DAYS that are asked go on beyond 9999. */
    private static void beyondTheLastDay() throws Exception {
        LakeBooks x = lake(200);
        x.account(6, 0, 0);
        for (int part = 0; part < 4; part++) {
            x.row(0, part, part + 1);
        }
        Check.law(x, "spring 10 d=0;spring 20 m=99&d=1;mark 60");
        Field now = LakeBooks.class.getDeclaredField("now");
        now.setAccessible(true);
        Field day = now.get(x).getClass().getDeclaredField("day");
        day.setAccessible(true);
        day.setInt(now.get(x), 9999);
        int[] water = {200, 200 + 4 + 5, 209 + 1 + 15, 225 + 2 + 25, 252 + 3 + 5};
        for (int n = 0; n < water.length; n++) {
            due("13: WATER behind " + n + " from 9999", x.on(n, 0), water[n]);
        }
        due("12: day()", x.day(), -3);
        due("14: dry()", x.dry(), -5);
        due("18: enough(0, 10)", x.enough(0, 10), 4);
        due("22: share(0, 40, 0)", x.share(0, 40, 0), NO);
        due("28: mean(1, 0)", x.mean(1, 0), 20);
        due("11: DAY", x.told(0), 9999);
    }
}
