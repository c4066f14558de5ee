/** The edges of what is seen, of odds, plans and books (promises 24 to 32). */
public final class SeenEdgeTests {
    private static final Check CHECK = new Check("SeenEdgeTests");
    private static final long NO = Long.MIN_VALUE;

    private static void due(String call, long got, long want) {
        CHECK.due(call, got, want);
    }

    public static void main(String[] args) {
        see();
        seenDays();
        hidden();
        whose();
        odds();
        mean();
        plan();
        planned();
        book();
        looked();
        CHECK.end();
    }

    private static LakeBooks lake(int water, int... dailies) {
        LakeBooks x = new LakeBooks();
        x.water(water);
        for (int daily : dailies) {
            x.account(0, 0, daily);
        }
        return x;
    }

    private static void see() {
        LakeBooks x = new LakeBooks();
        for (int level : new int[] {0, 99, Integer.MIN_VALUE, Integer.MAX_VALUE}) {
            due("24: none then", x.see(-1, level), 0);
        }
        due("24: behind 0, the least", x.see(0, 0), 1);
        due("24: behind 20, the most", x.see(20, 60), 2);
        due("24: behind 21", x.see(21, 60), -2);
        due("24: behind -2", x.see(-2, 60), -2);
        due("24: level 61", x.see(20, 61), -2);
        due("24: level -1", x.see(0, -1), -2);
        due("24: a third, one that is there", x.see(20, 60), 3);
        due("24: a fourth, the last", x.see(0, 0), 4);
        due("24: a fifth", x.see(0, 0), -4);
        due("39: count(2)", x.count(2), 4);
        due("24: none then, when full", x.see(-1, 61), 0);
        due("39: count(2)", x.count(2), 0);
        due("24: none then, when empty", x.see(-1, -1), 0);
        for (int row = 1; row <= 4; row++) {
            due("24: anew", x.see(row, row), row);
        }
        due("24: a fifth anew", x.see(1, 1), -4);
    }

    /** WATER 200 is 5 more each day: what is seen is behind 0, 1 .. 20 days. */
    private static void seenDays() {
        for (int n = 0; n <= 20; n++) {
            LakeBooks x = lake(200, 0);
            int level = (200 + 5 * n) / 10;
            x.see(n, level);
            due("26: seen behind " + n, x.whose(), 1);
            x.see(-1, 0);
            x.see(n, level + 1);
            due("26: one more behind " + n, x.whose(), 0);
            x.see(-1, 0);
            x.see(n, level - 1);
            due("26: one less behind " + n, x.whose(), 0);
        }
        LakeBooks later = lake(200, 0);
        for (int day = 0; day < 6; day++) {
            later.day();
        }
        later.see(4, 25);
        due("26: told on day 6, behind 4 more", later.whose(), 1);
        later.day();
        later.day();
        due("26: asked on day 8, behind 4 more", later.whose(), 0);
        later.see(-1, 0);
        later.see(0, 24);
        due("26: told on day 8, now", later.whose(), 1);
        LakeBooks low = lake(0, 0);
        low.area(0, 20);
        for (int level = 0; level <= 20; level++) {
            low.see(-1, 0);
            low.see(20, level);
            due("26: level " + level + " behind 20, being 5", low.whose(), level == 5 ? 1 : 0);
        }
        LakeBooks x = lake(0, 0);
        x.see(0, 0);
        due("26: the least level", x.whose(), 1);
        x.water(600);
        due("26: not the least", x.whose(), 0);
        x.see(-1, 0);
        x.see(0, 60);
        due("26: the most level", x.whose(), 1);
        for (int wrong = 0; wrong < 4; wrong++) {
            LakeBooks y = lake(200, 0);
            for (int row = 0; row < 4; row++) {
                y.see(2 * row, 20 + row + (row == wrong ? 1 : 0));
            }
            due("26: all of SEEN but row " + wrong, y.whose(), 0);
            y.see(-1, 0);
            for (int row = 3; row >= 0; row--) {
                y.see(2 * row, 20 + row);
            }
            due("26: all of SEEN", y.whose(), 1);
        }
    }

    private static void hidden() {
        LakeBooks x = new LakeBooks();
        x.account(4, 0, 0);
        int[][] rows = {{20, 2, 0}, {21, 2, 2}, {29, 2, 18}, {30, 1, 20}, {31, 0, -5}, {19, 0, -5}, {60, 0, -5}};
        for (int[] row : rows) {
            x.see(-1, 0);
            x.see(0, row[0]);
            due("25: how many for level " + row[0], x.hidden(0, 0), row[1]);
            due("25: the least for level " + row[0], x.hidden(0, 1), row[2]);
        }
        x.see(-1, 0);
        due("25: all 21, where nothing is seen", x.hidden(0, 0), 21);
        due("25: the least of all", x.hidden(0, 1), 0);
        x.set(0, 2, 20);
        due("25: what there is does not matter", x.hidden(0, 0), 21);
        x.see(0, 20);
        due("25: nor for the least", x.hidden(0, 1), 0);
        LakeBooks y = lake(0);
        for (int step = 0; step < 6; step++) {
            y.area(step, 1);
        }
        y.account(4, 0, 0);
        y.see(0, 60);
        due("25: 12 .. 20 to the top", y.hidden(0, 0), 9);
        due("25: 12 is the least", y.hidden(0, 1), 12);
        y.see(20, 60);
        due("25: behind 20 days too", y.hidden(0, 0), 9);
        y.see(20, 59);
        due("25: never both", y.hidden(0, 0), 0);
        due("25: never both", y.hidden(0, 1), -5);
        LakeBooks z = new LakeBooks();
        for (int a = 0; a < 6; a++) {
            z.account(4, 0, 0);
        }
        z.set(0, 2, 2);
        z.see(0, 22);
        due("25: of the sixth, with another's", z.hidden(5, 1), 2);
        due("25: of a seventh", z.hidden(6, 1), -1);
    }

    private static void whose() {
        LakeBooks x = new LakeBooks();
        due("26: nobody, nothing seen", x.whose(), 0);
        x.see(0, 20);
        due("26: nobody, as it is seen", x.whose(), 0);
        x.see(-1, 0);
        for (int a = 0; a < 6; a++) {
            x.account(3, a == 2 ? 0 : 9, 0);
            due("26: all, where nothing is seen", x.whose(), (2 << a) - 1);
        }
        x.see(0, 24);
        due("26: the third's bit", x.whose(), 4);
        x.see(-1, 0);
        x.see(0, 23);
        due("26: all but the third's", x.whose(), 63 - 4);
        x.see(-1, 0);
        x.see(0, 25);
        due("26: nobody's", x.whose(), 0);
        LakeBooks y = lake(200, 0, 0, 0, 0, 0, 20);
        y.see(1, 20);
        due("26: the sixth's bit", y.whose(), 32);
    }

    private static void odds() {
        due("27: 1 day, dry", lake(59).odds(1, 0), 1);
        due("27: 1 day, dry", lake(59).odds(1, 1), 1);
        due("27: 1 day, not dry", lake(60).odds(1, 0), 0);
        due("27: 1 day, not dry", lake(60).odds(1, 1), 1);
        LakeBooks x = lake(55);
        due("27: one of 20", x.odds(20, 0), 1);
        due("27: one of 20", x.odds(20, 1), 20);
        due("27: 0 days", x.odds(0, 0), NO);
        due("27: 21 days", x.odds(21, 0), NO);
        x = lake(60, -5);
        due("27: each of 20", x.odds(20, 0), 1);
        due("27: each of 20", x.odds(20, 1), 1);
        x = lake(40, 30);
        due("27: dry now does not count", x.odds(1, 0), 0);
        x = lake(78, -6);
        due("27: behind the last one, by the latest day too", x.odds(14, 1), 1);
        due("27: behind 14", x.odds(14, 0), 1);
        due("27: not behind 13", x.odds(13, 0), 0);
        x = lake(64, 0);
        Check.law(x, "sun 5 a=0&d<2");
        due("27: two of 4 in lowest terms", x.odds(4, 0), 1);
        due("27: two of 4 in lowest terms", x.odds(4, 1), 2);
        due("27: two of 3", x.odds(3, 0), 2);
        due("27: two of 3", x.odds(3, 1), 3);
    }

    private static void mean() {
        LakeBooks x = lake(200);
        due("28: 1 day", x.mean(1, 0), 20);
        due("28: 1 day", x.mean(1, 1), 1);
        // 20 + 21 + 21 + 22 + 22 ... + 39 + 39 + 40.
        due("28: 40 days", x.mean(40, 0), 30);
        due("28: 40 days", x.mean(40, 1), 1);
        due("28: 39 days", x.mean(39, 0), 1160);
        due("28: 39 days", x.mean(39, 1), 39);
        due("28: 0 days", x.mean(0, 0), NO);
        due("28: 41 days", x.mean(41, 0), NO);
        x = lake(0);
        due("28: level 0", x.mean(1, 0), 0);
        due("28: level 0", x.mean(1, 1), 1);
        x = lake(9999);
        Check.law(x, "mark 60");
        due("28: level 60", x.mean(40, 0), 60);
        due("28: level 60", x.mean(40, 1), 1);
        x = lake(95);
        due("28: 3 days, 1 more than a whole", x.mean(3, 0), 31);
        due("28: 3 days, 1 more than a whole", x.mean(3, 1), 3);
        due("28: 2 days, a whole", x.mean(2, 0), 10);
        due("28: 2 days, a whole", x.mean(2, 1), 1);
    }

    private static void plan() {
        LakeBooks x = lake(200, 0, 0, 0, 0, 0, 0);
        for (int daily : new int[] {0, 31, Integer.MIN_VALUE, Integer.MAX_VALUE}) {
            due("29: it is empty then", x.plan(-1, daily), 0);
        }
        due("29: the least", x.plan(0, -30), 1);
        due("29: the most, of the sixth", x.plan(5, 30), 2);
        due("29: below", x.plan(0, -31), -2);
        due("29: above", x.plan(0, 31), -2);
        due("29: of a seventh", x.plan(6, 0), -1);
        due("29: of account -2", x.plan(-2, 0), -1);
        for (int row = 3; row <= 8; row++) {
            due("29: row " + row, x.plan(1, 0), row);
        }
        due("29: a ninth row", x.plan(1, 0), -4);
        due("39: count(3)", x.count(3), 8);
        due("29: it is empty then, when full", x.plan(-1, 31), 0);
        due("39: count(3)", x.count(3), 0);
        due("30: an empty PLAN", x.planned(0), 200);
        for (int row = 1; row <= 8; row++) {
            due("29: anew", x.plan(1, 0), row);
        }
    }

    private static void planned() {
        LakeBooks x = lake(200, 0, -9);
        due("30: no rows: WATER now", x.planned(0), 200);
        due("30: no rows: THE LEVEL now", x.planned(1), 20);
        int water = 200, daily = 0;
        for (int row = 1; row <= 8; row++) {
            daily = 3 * row;
            x.plan(0, daily);
            water += daily - 9 + 5;
            due("30: WATER behind row " + row, x.planned(0), water);
            due("30: THE LEVEL behind row " + row, x.planned(1), water / 10);
        }
        due("30: planned(-1)", x.planned(-1), -1);
        due("30: planned(2)", x.planned(2), -1);
        due("5: DAILY is as it was", x.of(0, 3), 0);
        LakeBooks y = lake(200, 0, 0);
        y.plan(0, 10);
        y.plan(1, 20);
        y.plan(0, -30);
        due("30: each row is ahead of its day", y.planned(0), 200 + 15 + 35 - 5);
        LakeBooks z = lake(200, 0);
        Check.law(z, "spring 9 d=0;spring 90 d=1");
        z.plan(0, 1);
        due("30: one row is one day", z.planned(0), 200 + 1 + 14);
    }

    private static void book() {
        LakeBooks x = lake(200, 0, 0, 0, 0, 0, 0);
        for (int buckets : new int[] {0, 10000, Integer.MIN_VALUE, Integer.MAX_VALUE}) {
            due("31: it is empty then", x.book(-1, buckets), 0);
        }
        due("31: the least", x.book(0, -9999), 1);
        due("31: the most, of the sixth", x.book(5, 9999), 2);
        due("31: below", x.book(0, -10000), -2);
        due("31: above", x.book(0, 10000), -2);
        due("31: of a seventh", x.book(6, 0), -1);
        due("31: of account -2", x.book(-2, 0), -1);
        for (int row = 3; row <= 8; row++) {
            due("31: row " + row, x.book(1, 0), row);
        }
        due("31: a ninth row", x.book(1, 0), -4);
        due("39: count(4)", x.count(4), 8);
        due("31: it is empty then, when full", x.book(-1, 10000), 0);
        due("39: count(4)", x.count(4), 0);
        due("32: an empty BOOK", x.looked(), -5);
        for (int row = 1; row <= 8; row++) {
            due("31: anew", x.book(1, 0), row);
        }
    }

    private static void looked() {
        for (int wrong = 0; wrong < 8; wrong++) {
            for (int off : new int[] {-1, 1}) {
                LakeBooks x = lake(200, 0, 0, 0, 0, 0, 0);
                for (int a = 0; a < 6; a++) {
                    x.set(a, 0, 7 * a - 9);
                }
                for (int row = 0; row < 8; row++) {
                    int a = row % 6;
                    x.book(a, 7 * a - 9 + (row == wrong ? off : 0));
                }
                due("32: row " + wrong + " is otherwise", x.looked(), wrong);
                x.set(wrong % 6, 0, 7 * (wrong % 6) - 9 + off);
                // Accounts 0 and 1 have two rows each: what one row tells now the other does not.
                due("32: then", x.looked(), wrong > 5 ? wrong - 6 : wrong < 2 ? wrong + 6 : -5);
            }
        }
        LakeBooks x = lake(200, 0);
        x.book(0, 0);
        due("32: all so", x.looked(), -5);
    }
}
