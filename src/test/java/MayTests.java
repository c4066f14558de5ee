/** Promises 17 to 23: what one may. */
public final class MayTests {
    private static final Check CHECK = new Check("MayTests");
    private static final long NO = LakeBooks.NO;

    private static void due(String call, long got, long want) {
        CHECK.due(call, got, want);
    }

    public static void main(String[] args) {
        promise17();
        promise18();
        promise19();
        promise20();
        promise21();
        promise22();
        promise23();
        CHECK.end();
    }

    private static LakeBooks lake(int water, int... dailies) {
        LakeBooks x = new LakeBooks();
        x.water(water);
        for (int daily : dailies) {
            x.account(0, 0, daily);
        }
        return x;
    }

    private static void promise17() {
        LakeBooks x = lake(70, 9);
        x.account(2, 9, 0);
        x.set(1, 1, 9);
        String before = Check.standing(x);
        due("17: may(0, 1)", x.may(0, 1), -15);
        due("17: may(0, 2)", x.may(0, 2), -10);
        due("17: may(0, 12)", x.may(0, 12), -5);
        due("17: may(0, 0)", x.may(0, 0), -10002);
        due("17: may(0, 13)", x.may(0, 13), -10002);
        due("17: may(2, 1)", x.may(2, 1), -10001);
        due("17: may(-1, 13), NONE first", x.may(-1, 13), -10001);
        CHECK.holds("17: what is asked changes nothing", Check.standing(x).equals(before));
        x.set(0, 1, 0);
        due("17: of a LENDING one", x.may(1, 1), -15 + 9);
        x.water(600);
        due("17: the least there is", x.may(0, 12), -30);
        x.water(24);
        due("17: the most there is", x.may(0, 1), -5000);
        x.set(1, 1, 10);
        due("17: 30", x.may(0, 1), 30);
        Check.law(x, "floor 60");
        due("17: none", x.may(0, 1), -5000);
        x = lake(60, 0);
        Check.law(x, "sun 9 a=0&d=1;mark 6");
        due("17: behind each of the days", x.may(0, 3), 4);
        due("17: behind the first", x.may(0, 1), -5);
    }

    private static void promise18() {
        LakeBooks x = lake(200, 3, 1);
        String before = Check.standing(x);
        due("18: enough(0, 10)", x.enough(0, 10), 4);
        due("18: enough(0, 9)", x.enough(0, 9), 3);
        due("18: enough(0, 0)", x.enough(0, 0), 0);
        due("18: enough(0, -999)", x.enough(0, -999), 0);
        due("18: behind 60", x.enough(1, 60), 60);
        due("18: behind 61", x.enough(1, 61), -5);
        due("18: enough(0, 999)", x.enough(0, 999), -5);
        due("18: enough(0, 1000)", x.enough(0, 1000), -2);
        due("18: enough(0, -1000)", x.enough(0, -1000), -2);
        due("18: enough(2, 1000), NONE first", x.enough(2, 1000), -1);
        due("18: enough(-1, 0)", x.enough(-1, 0), -1);
        CHECK.holds("18: what is asked changes nothing", Check.standing(x).equals(before));
    }

    private static void promise19() {
        LakeBooks x = lake(205, 0);
        due("19: nobody lifts", x.lifted(), 0);
        x.account(3, 4, 0);
        due("19: too little", x.lifted(), 0);
        x.account(6, 1, 0);
        due("19: together", x.lifted(), 1);
        x.account(4, 9, 0);
        due("19: no stones yet", x.lifted(), 1);
        x.set(3, 2, 20);
        due("19: stones", x.lifted(), 11);
        x.water(585);
        due("19: to the top", x.lifted(), 2);
        x.water(9999);
        due("19: both at the top", x.lifted(), 0);
    }

    private static void promise20() {
        LakeBooks x = lake(200, -10);
        x.account(1, 0, 3);
        Check.law(x, "rate 10");
        x.set(1, 0, 100);
        String before = Check.standing(x);
        due("20: without(0, 3)", x.without(0, 3), -30);
        due("20: without(1, 1)", x.without(1, 1), 13);
        due("20: without(1, 2)", x.without(1, 2), 13 + 14);
        due("20: without(0, 0)", x.without(0, 0), -100002);
        due("20: without(0, 41)", x.without(0, 41), -100002);
        due("20: without(2, 41), NONE first", x.without(2, 41), -100001);
        due("20: without(-1, 1)", x.without(-1, 1), -100001);
        CHECK.holds("20: what is asked changes nothing", Check.standing(x).equals(before));
        x = lake(200, 0, 0);
        Check.law(x, "sun 7 a=0");
        due("20: without its sun", x.without(0, 1), -7);
        due("20: without(0, 40)", x.without(0, 40), -2 * 40 - 200);
        due("20: without another", x.without(1, 40), 0);
        x = lake(205);
        x.account(3, 9, 0);
        Check.law(x, "spring 10 l>20");
        due("20: without its lifts", x.without(0, 1), 10);
        x = lake(60, -30, -4);
        due("20: another draws then", x.without(0, 1), -6);
    }

    private static void promise21() {
        LakeBooks x = lake(60, -30);
        String before = Check.standing(x);
        due("21: wells(1)", x.wells(1), 5);
        due("21: wells(10)", x.wells(10), 5);
        due("21: wells(0)", x.wells(0), -2);
        due("21: wells(11)", x.wells(11), -2);
        CHECK.holds("21: what is asked changes nothing", Check.standing(x).equals(before));
        due("21: none is needed", lake(200).wells(10), 0);
        x = lake(0);
        x.area(0, 18);
        due("21: none is enough", x.wells(1), -5);
        due("21: a second day is too late", x.wells(2), -5);
        x.area(0, 20);
        x.water(15);
        due("21: 100 is none", x.wells(1), -5);
        due("21: what is asked next knows no well", x.on(1, 0), 20);
        x.water(16);
        due("21: 99", x.wells(1), 99);
        due("21: what is asked next knows no well", x.dry(), 0);
        due("21: what is asked next knows no well", x.lowest(1), 0);
        due("21: what is asked next knows no well", x.on(2, 0), 26);
        x.area(0, 18);
        x.water(0);
        Check.law(x, "spring 4 d=0");
        due("21: 99", x.wells(1), 99);
        due("21: 99 on each day", x.wells(10), 99);
        Check.law(x, "floor 60");
        due("21: no level is above 60", x.wells(1), -5);
    }

    private static void promise22() {
        LakeBooks x = lake(0, 0, 0, 0);
        due("22: no sun above", x.share(0, 40, 0), NO);
        due("22: no sun below", x.share(0, 40, 1), NO);
        Check.law(x, "sun 2 a=0;sun 6 a=1;sun 4 a=0&d=3");
        String before = Check.standing(x);
        due("22: share(0, 1, 0)", x.share(0, 1, 0), 1);
        due("22: share(0, 1, 1)", x.share(0, 1, 1), 4);
        due("22: share(1, 3, 0)", x.share(1, 3, 0), 3);
        due("22: share(1, 3, 1)", x.share(1, 3, 1), 4);
        due("22: share(0, 4, 0)", x.share(0, 4, 0), 1);
        due("22: share(0, 4, 1)", x.share(0, 4, 1), 3);
        due("22: share(0, 40, 0)", x.share(0, 40, 0), 2);
        due("22: share(0, 40, 1)", x.share(0, 40, 1), 7);
        due("22: share(2, 9, 0)", x.share(2, 9, 0), 0);
        due("22: share(2, 9, 1)", x.share(2, 9, 1), 1);
        due("22: share(0, 0, 0)", x.share(0, 0, 0), NO);
        due("22: share(0, 41, 0)", x.share(0, 41, 0), NO);
        due("22: share(0, 1, 2)", x.share(0, 1, 2), NO);
        due("22: share(0, 1, -1)", x.share(0, 1, -1), NO);
        due("22: share(3, 1, 0)", x.share(3, 1, 0), NO);
        due("22: share(-1, 1, 0)", x.share(-1, 1, 0), NO);
        CHECK.holds("22: what is asked changes nothing", Check.standing(x).equals(before));
        Check.law(x, "sun 5 a=7");
        due("22: nobody is charged", x.share(0, 4, 1), NO);
    }

    private static void promise23() {
        LakeBooks x = lake(200, 1, 3, 3);
        x.set(0, 0, 5);
        due("23: now", x.richest(0), 0);
        due("23: richest(2)", x.richest(2), 0);
        due("23: richest(3), of several the first", x.richest(3), 1);
        due("23: richest(40)", x.richest(40), 1);
        due("23: richest(-1)", x.richest(-1), -2);
        due("23: richest(41)", x.richest(41), -2);
        x.set(0, 0, -9);
        x.set(1, 0, -8);
        x.set(2, 0, -7);
        due("23: all below 0", x.richest(0), 2);
        due("23: nobody is there", lake(200).richest(0), -5);
        due("23: nobody is there, BAD first", lake(200).richest(41), -2);
    }
}
