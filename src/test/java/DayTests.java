import java.lang.reflect.Field;

/** Promises 12 to 16: days. */
public final class DayTests {
    private static final Check CHECK = new Check("DayTests");

    private static void due(String call, long got, long want) {
        CHECK.due(call, got, want);
    }

    public static void main(String[] args) throws Exception {
        promise12Pours();
        promise12Sun();
        promise12AheadOfTheDay();
        promise12Spring();
        promise12Held();
        promise12LastDay();
        promise13();
        promise14();
        promise15();
        promise16();
        CHECK.end();
    }

    private static LakeBooks lake(int water, int... dailies) {
        LakeBooks x = new LakeBooks();
        x.water(water);
        for (int daily : dailies) {
            x.account(0, 0, daily);
        }
        return x;
    }

    private static void promise12Pours() {
        LakeBooks x = lake(200);
        due("12: day()", x.day(), 20);
        due("12: DAY", x.told(0), 1);
        due("12: WATER", x.told(1), 205);
        due("12: day()", x.day(), 21);

        x = lake(60, 8, -30, -5);
        due("12: pours, then draws", x.day(), 5);
        due("12: WATER", x.told(1), 55);
        due("12: what pours", x.of(0, 2), 8);
        due("12: draws to the floor", x.of(1, 2), -18);
        due("12: draws nothing", x.of(2, 2), 0);

        x = lake(60, -30, 8);
        due("12: draws, then pours", x.day(), 6);
        due("12: WATER", x.told(1), 63);
        due("12: draws no more than is above the floor then", x.of(0, 2), -10);

        x = lake(20, -30);
        due("12: below the floor", x.day(), 2);
        due("12: draws nothing below the floor", x.of(0, 2), 0);

        x = lake(100, -30);
        Check.law(x, "floor 0");
        x.area(0, 20);
        due("12: no floor", x.day(), 3);
        due("12: draws all", x.of(0, 2), -30);

        x = lake(200);
        x.account(1, 0, 2);
        Check.law(x, "rate 5");
        x.set(0, 0, 139);
        x.day();
        due("12: interest is poured", x.of(0, 2), 139 + 2 + 6);
        due("12: WATER", x.told(1), 200 + 8 + 5);
    }

    private static void promise12Sun() {
        LakeBooks x = lake(20, 0);
        x.account(1, 0, 0);
        x.account(0, 0, 0);
        Check.law(x, "sun 9 a<2;sun 4 k=1");
        due("12: sun", x.day(), 0);
        due("12: WATER is 0 at least, then the spring", x.told(1), 5);
        due("12: charged", x.of(0, 2), -9);
        due("12: charged in full", x.of(1, 2), -13);
        due("12: not charged", x.of(2, 2), 0);

        x = lake(60, -20);
        Check.law(x, "sun 3 d=0");
        x.day();
        due("12: sun behind the pours", x.told(1), 50 - 3 + 5);
        due("12: BUCKETS", x.of(0, 2), -13);
        x.day();
        due("12: sun by the day", x.of(0, 2), -13 - 2);
    }

    private static void promise12AheadOfTheDay() {
        LakeBooks x = lake(290, 30);
        x.account(5, 0, -5);
        x.day();
        due("12: LEAKING by the level ahead", x.of(1, 2), -5);
        due("12: WATER", x.told(1), 320);
        x.day();
        due("12: LEAKING above 30", x.of(1, 2), -11);
        due("12: WATER", x.told(1), 349);

        x = lake(200, 10);
        Check.law(x, "sun 5 b>0");
        x.day();
        due("12: sun by BUCKETS ahead", x.of(0, 2), 10);
        x.day();
        due("12: sun by BUCKETS ahead", x.of(0, 2), 15);

        x = lake(199);
        Check.law(x, "spring 10 l>19");
        x.day();
        due("12: spring by the level ahead", x.told(1), 204);
        x.day();
        due("12: spring by the level ahead", x.told(1), 219);
    }

    private static void promise12Spring() {
        LakeBooks x = lake(200);
        Check.law(x, "mark 10");
        due("12: down to the mark", x.day(), 10);
        due("12: WATER", x.told(1), 100);
        due("12: TOWN", x.told(2), 105);
        x.day();
        due("12: TOWN", x.told(2), 110);
        x.water(95);
        due("12: not above the mark", x.day(), 10);
        due("12: TOWN", x.told(2), 110);
        x = lake(600);
        due("12: the mark without a law", x.day(), 50);
        due("12: TOWN", x.told(2), 105);
    }

    private static void promise12Held() {
        LakeBooks x = lake(200);
        x.account(1, 0, 0);
        Check.law(x, "rate 99;sun 9 a=0");
        x.set(0, 0, 999);
        int buckets = 999;
        for (int day = 0; day < 12; day++) {
            x.day();
            buckets = Math.min(9999, buckets + buckets * 99 / 100 - 9);
            due("12: BUCKETS behind day " + day, x.of(0, 2), buckets);
        }
        due("12: BUCKETS are held, behind pours and sun", buckets, 9999);
        for (int day = 0; day < 10; day++) {
            x.day();
        }
        due("12: TOWN is held", x.told(2), 99999);

        x = lake(0, 0);
        Check.law(x, "sun 99 a=0;sun 99 a=0;sun 99 a=0;sun 99 a=0;sun 99 a=0;sun 99 a=0;sun 99 a=0;sun 99 a=0");
        x.set(0, 0, -999);
        for (int day = 1; day <= 14; day++) {
            x.day();
            due("12: BUCKETS below 0", x.of(0, 2), Math.max(-9999, -999 - 792 * day));
        }
    }

    /** No run of 512 calls gets there, so the test puts the day itself. */
    private static void promise12LastDay() throws Exception {
        LakeBooks x = lake(200, 1);
        Check.law(x, "spring 10 m=99;spring 20 d=9");
        Field state = LakeBooks.class.getDeclaredField("now");
        state.setAccessible(true);
        Field day = state.get(x).getClass().getDeclaredField("day");
        day.setAccessible(true);
        day.setInt(state.get(x), 9998);
        due("12: m is 99 at most", x.told(7), 15);
        due("12: day() on 9998", x.day(), 21);
        due("12: DAY", x.told(0), 9999);
        due("12: SPRING on 9999", x.told(7), 35);
        due("12: day() on 9999", x.day(), -3);
        due("12: DAY", x.told(0), 9999);
        due("13: beyond 9999", x.on(2, 0), 216 + 36 + 16);
        due("12: nothing changed", x.told(1), 216);
    }

    private static LakeBooks town() {
        LakeBooks x = new LakeBooks();
        x.area(1, 3);
        x.area(3, 15);
        x.account(1, 1, -9);
        x.account(4, 2, -6);
        x.account(3, 4, 3);
        x.account(6, 5, 3);
        x.account(5, 6, 6);
        x.set(0, 0, 300);
        x.set(1, 2, 3);
        x.row(3, 1, 9);
        x.see(2, 20);
        x.plan(0, 5);
        x.book(0, 300);
        Check.law(x, "spring 12 d>4;sun 3 l>8;sun 1 a<3;mark 21;floor 6;rate 4");
        x.feed('s');
        x.act(3, 2, 1);
        return x;
    }

    private static void promise13() {
        LakeBooks x = town(), y = town();
        String before = Check.standing(x);
        for (int n = 0; n <= 40; n++) {
            due("13: on(" + n + ", 0)", x.on(n, 0), y.told(1));
            due("13: on(" + n + ", 1)", x.on(n, 1), y.told(3));
            due("13: on(" + n + ", 2)", x.on(n, 2), y.told(2));
            for (int a = 0; a < 5; a++) {
                due("13: on(" + n + ", 1" + a + ")", x.on(n, 10 + a), y.of(a, 2));
            }
            y.day();
        }
        CHECK.holds("13: TOWN was more in these", x.on(40, 2) > 0);
        due("13: on(41, 0)", x.on(41, 0), -10002);
        due("13: on(-1, 14)", x.on(-1, 14), -10002);
        for (int what : new int[] {-1, 3, 9, 15, 16, Integer.MIN_VALUE, Integer.MAX_VALUE}) {
            due("13: on(0, " + what + ")", x.on(0, what), -10001);
            due("13: on(41, " + what + "), NONE first", x.on(41, what), -10001);
        }
        CHECK.holds("13: what is asked changes nothing", Check.standing(x).equals(before));
    }

    private static void promise14() {
        due("14: never", lake(200).dry(), -5);
        due("14: now", lake(59).dry(), 0);
        due("14: the level is above the floor", lake(60).dry(), -5);
        LakeBooks x = lake(200, -30);
        String before = Check.standing(x);
        due("14: drawn", x.dry(), 6);
        CHECK.holds("14: what is asked changes nothing", Check.standing(x).equals(before));
        x = lake(60, 0);
        Check.law(x, "mark 6;sun 99 a=0&m=5&d=9");
        due("14: behind 60", x.dry(), 60);
        Check.law(x, "mark 6;sun 99 a=0&m=6&d=0");
        due("14: behind 61", x.dry(), -5);
        x.day();
        due("14: behind 60 from then", x.dry(), 60);
        Check.law(x, "floor 6");
        due("14: by the law's floor", x.dry(), 0);
    }

    private static void promise15() {
        LakeBooks x = lake(200, 0);
        Check.law(x, "mark 20;sun 50 a=0&d=3");
        String before = Check.standing(x);
        due("15: lowest(0)", x.lowest(0), 0);
        due("15: lowest(3)", x.lowest(3), 0);
        due("15: lowest(4)", x.lowest(4), 4);
        due("15: of several the fewest", x.lowest(40), 4);
        due("15: lowest(-1)", x.lowest(-1), -2);
        due("15: lowest(41)", x.lowest(41), -2);
        CHECK.holds("15: what is asked changes nothing", Check.standing(x).equals(before));
        due("15: all alike", lake(9999).lowest(0), 0);
        x = lake(500, -6);
        due("15: lower each ten days", x.lowest(40), 31);
        due("15: lower at once", x.lowest(1), 1);
    }

    private static void promise16() {
        LakeBooks x = lake(200, -1, -3);
        String before = Check.standing(x);
        due("16: of several the first", x.ruined(0), 0);
        due("16: ruined(1)", x.ruined(1), 1);
        due("16: ruined(2)", x.ruined(2), 1);
        due("16: ruined(3)", x.ruined(3), 1);
        due("16: ruined(-1)", x.ruined(-1), -2);
        due("16: ruined(1000)", x.ruined(1000), -2);
        CHECK.holds("16: what is asked changes nothing", Check.standing(x).equals(before));
        x.set(0, 0, -6);
        due("16: now", x.ruined(5), 0);
        x = lake(200, 5, -1);
        due("16: behind 60", x.ruined(59), 1);
        due("16: behind 61", x.ruined(60), -5);
        due("16: ruined(999)", x.ruined(999), -5);
        due("16: nobody is there", lake(200).ruined(0), -5);
    }
}
