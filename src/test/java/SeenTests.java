/** Promises 24 to 32: seen, odds, plans, books. */
public final class SeenTests {
    private static final Check CHECK = new Check("SeenTests");
    private static final long NO = LakeBooks.NO;

    private static void due(String call, long got, long want) {
        CHECK.due(call, got, want);
    }

    public static void main(String[] args) {
        promise24();
        promise25();
        promise26();
        promise27();
        promise28();
        promise29();
        promise30();
        promise31();
        promise32();
        CHECK.end();
    }

    private static void promise24() {
        LakeBooks x = new LakeBooks();
        due("24: see(-1, 0), none is there", x.see(-1, 0), 0);
        due("24: see(0, 0)", x.see(0, 0), 1);
        due("24: see(20, 60)", x.see(20, 60), 2);
        due("24: see(21, 0)", x.see(21, 0), -2);
        due("24: see(-2, 0)", x.see(-2, 0), -2);
        due("24: see(0, 61)", x.see(0, 61), -2);
        due("24: see(0, -1)", x.see(0, -1), -2);
        due("24: see(20, 60) again", x.see(20, 60), 3);
        due("24: see(3, 3)", x.see(3, 3), 4);
        due("24: a fifth", x.see(3, 3), -4);
        due("24: a fifth, BAD first", x.see(3, 61), -2);
        due("24: count(2)", x.count(2), 4);
        due("24: see(-1, 999)", x.see(-1, 999), 0);
        due("24: count(2)", x.count(2), 0);
        due("24: see(1, 1)", x.see(1, 1), 1);
    }

    private static void promise25() {
        LakeBooks x = new LakeBooks();
        x.account(4, 9, 0);
        x.account(1, 9, 0);
        x.account(0, 9, 0);
        due("25: nothing is seen: all", x.hidden(0, 0), 21);
        due("25: nothing is seen: the least", x.hidden(0, 1), 0);
        x.see(0, 23);
        String before = Check.standing(x);
        due("25: how many", x.hidden(0, 0), 2);
        due("25: the least", x.hidden(0, 1), 6);
        due("25: hidden(0, 2)", x.hidden(0, 2), -1);
        due("25: hidden(0, -1)", x.hidden(0, -1), -1);
        due("25: hidden(3, 0)", x.hidden(3, 0), -1);
        due("25: hidden(-1, 0)", x.hidden(-1, 0), -1);
        due("25: the kind above", x.hidden(1, 0), -3);
        due("25: another kind, NONE first", x.hidden(1, 2), -1);
        due("25: another kind", x.hidden(2, 1), -3);
        CHECK.holds("25: what is asked changes nothing", Check.standing(x).equals(before));
        x.see(2, 24);
        due("25: also behind 2 days", x.hidden(0, 0), 2);
        x.see(3, 25);
        due("25: also behind 3 days", x.hidden(0, 0), 1);
        due("25: also behind 3 days", x.hidden(0, 1), 7);
        x.see(0, 22);
        due("25: not both", x.hidden(0, 0), 0);
        due("25: not both", x.hidden(0, 1), -5);
        x.see(-1, 0);
        x.see(0, 30);
        due("25: 20 stones", x.hidden(0, 1), 20);
        due("25: 20 stones", x.hidden(0, 0), 1);
        x.see(-1, 0);
        x.see(20, 30);
        due("25: behind 20 days", x.hidden(0, 0), 2);
        due("25: behind 20 days", x.hidden(0, 1), 0);
        x.day();
        due("25: from now on", x.hidden(0, 0), 1);
        due("25: STONES are as they were", x.of(0, 4), 0);
    }

    private static void promise26() {
        LakeBooks x = new LakeBooks();
        due("26: nobody is there", x.whose(), 0);
        x.account(3, 9, 0);
        x.account(0, 0, -20);
        x.account(4, 0, 0);
        x.set(2, 2, 4);
        due("26: nothing is seen", x.whose(), 7);
        x.see(0, 22);
        String before = Check.standing(x);
        due("26: seen now", x.whose(), 3);
        CHECK.holds("26: what is asked changes nothing", Check.standing(x).equals(before));
        x.see(1, 23);
        due("26: without its pours", x.whose(), 2);
        x.see(-1, 0);
        x.see(0, 20);
        due("26: without its stones", x.whose(), 4);
        x.see(5, 13);
        due("26: and behind 5 days", x.whose(), 4);
        x.see(5, 14);
        due("26: all of SEEN", x.whose(), 0);
        LakeBooks y = new LakeBooks();
        y.account(0, 0, 0);
        y.account(0, 0, 0);
        Check.law(y, "sun 30 a=1");
        y.see(1, 20);
        due("26: without its sun", y.whose(), 2);
    }

    private static void promise27() {
        LakeBooks x = new LakeBooks();
        due("27: never", x.odds(20, 0), 0);
        due("27: never", x.odds(20, 1), 1);
        due("27: what is asked next has its springs", x.on(20, 0), 300);
        due("27: what is asked next has its springs", x.on(40, 0), 400);
        x.water(55);
        String before = Check.standing(x);
        due("27: odds(1, 0)", x.odds(1, 0), 1);
        due("27: odds(1, 1)", x.odds(1, 1), 1);
        due("27: odds(4, 0)", x.odds(4, 0), 1);
        due("27: odds(4, 1)", x.odds(4, 1), 4);
        due("27: odds(20, 1)", x.odds(20, 1), 20);
        for (int n : new int[] {-1, 0, 21}) {
            due("27: odds(" + n + ", 0)", x.odds(n, 0), NO);
        }
        due("27: odds(1, 2)", x.odds(1, 2), NO);
        due("27: odds(1, -1)", x.odds(1, -1), NO);
        CHECK.holds("27: what is asked changes nothing", Check.standing(x).equals(before));
        x.account(0, 0, 0);
        Check.law(x, "sun 5 a=0&d<2");
        x.water(64);
        due("27: in lowest terms", x.odds(4, 0), 1);
        due("27: in lowest terms", x.odds(4, 1), 2);
        x.water(50);
        due("27: dry on each", x.odds(6, 0), 1);
        due("27: dry on each", x.odds(6, 1), 1);
        Check.law(x, "spring 90 d=1");
        x.water(55);
        due("27: no spring at all on that day", x.odds(2, 0), 1);
        due("27: no spring at all on that day", x.odds(2, 1), 2);
        x.water(50);
        due("27: dry behind some", x.odds(2, 0), 1);
        x.day();
        due("27: by days from now", x.odds(2, 0), 1);
        due("27: by days from now", x.odds(2, 1), 2);
    }

    private static void promise28() {
        LakeBooks x = new LakeBooks();
        String before = Check.standing(x);
        due("28: mean(1, 0)", x.mean(1, 0), 20);
        due("28: mean(1, 1)", x.mean(1, 1), 1);
        due("28: mean(2, 0)", x.mean(2, 0), 41);
        due("28: mean(2, 1)", x.mean(2, 1), 2);
        due("28: mean(3, 0)", x.mean(3, 0), 62);
        due("28: mean(3, 1)", x.mean(3, 1), 3);
        due("28: mean(4, 0)", x.mean(4, 0), 21);
        due("28: mean(4, 1)", x.mean(4, 1), 1);
        due("28: mean(40, 0)", x.mean(40, 0), 30);
        due("28: mean(40, 1)", x.mean(40, 1), 1);
        for (int n : new int[] {-1, 0, 41}) {
            due("28: mean(" + n + ", 0)", x.mean(n, 0), NO);
        }
        due("28: mean(1, 2)", x.mean(1, 2), NO);
        due("28: mean(1, -1)", x.mean(1, -1), NO);
        CHECK.holds("28: what is asked changes nothing", Check.standing(x).equals(before));
        Check.law(x, "mark 0");
        due("28: 0 above", x.mean(6, 0), 0);
        due("28: 1 below", x.mean(6, 1), 1);
    }

    private static LakeBooks twoAccounts() {
        LakeBooks x = new LakeBooks();
        x.account(0, 0, 3);
        x.account(0, 0, 0);
        return x;
    }

    private static void promise29() {
        LakeBooks x = twoAccounts();
        due("29: plan(-1, 99), none is there", x.plan(-1, 99), 0);
        due("29: plan(2, 0)", x.plan(2, 0), -1);
        due("29: plan(-2, 0)", x.plan(-2, 0), -1);
        due("29: plan(2, 31), NONE first", x.plan(2, 31), -1);
        due("29: plan(0, 31)", x.plan(0, 31), -2);
        due("29: plan(0, -31)", x.plan(0, -31), -2);
        due("29: count(3)", x.count(3), 0);
        for (int r = 1; r <= 8; r++) {
            due("29: plan", x.plan(r % 2, r % 2 == 0 ? 30 : -30), r);
        }
        due("29: a ninth", x.plan(0, 0), -4);
        due("29: a ninth, BAD first", x.plan(0, 31), -2);
        due("29: a ninth, NONE first", x.plan(2, 31), -1);
        due("29: count(3)", x.count(3), 8);
        due("29: plan(-1, 99)", x.plan(-1, 99), 0);
        due("29: plan(1, 0)", x.plan(1, 0), 1);
    }

    private static void promise30() {
        LakeBooks x = twoAccounts();
        due("30: no row", x.planned(0), 200);
        due("30: no row", x.planned(1), 20);
        x.plan(0, -10);
        due("30: one row", x.planned(0), 195);
        due("30: one row", x.planned(1), 19);
        x.plan(0, 20);
        due("30: two rows", x.planned(0), 220);
        x.plan(1, 5);
        String before = Check.standing(x);
        due("30: what became so stays so", x.planned(0), 250);
        due("30: planned(1)", x.planned(1), 25);
        due("30: planned(2)", x.planned(2), -1);
        due("30: planned(-1)", x.planned(-1), -1);
        CHECK.holds("30: what is asked changes nothing", Check.standing(x).equals(before));
        due("30: DAILY is as it was", x.of(0, 3), 3);
        x.day();
        due("30: from now on", x.planned(0), 258);
    }

    private static void promise31() {
        LakeBooks x = twoAccounts();
        due("31: book(-1, 99999), none is there", x.book(-1, 99999), 0);
        due("31: book(2, 0)", x.book(2, 0), -1);
        due("31: book(-2, 0)", x.book(-2, 0), -1);
        due("31: book(2, 10000), NONE first", x.book(2, 10000), -1);
        due("31: book(0, 10000)", x.book(0, 10000), -2);
        due("31: book(0, -10000)", x.book(0, -10000), -2);
        due("31: count(4)", x.count(4), 0);
        for (int r = 1; r <= 8; r++) {
            due("31: book", x.book(r % 2, r % 2 == 0 ? 9999 : -9999), r);
        }
        due("31: a ninth", x.book(0, 0), -4);
        due("31: a ninth, BAD first", x.book(0, 10000), -2);
        due("31: a ninth, NONE first", x.book(2, 10000), -1);
        due("31: count(4)", x.count(4), 8);
        due("31: count(3)", x.count(3), 0);
        due("31: book(-1, 99999)", x.book(-1, 99999), 0);
        due("31: book(1, 0)", x.book(1, 0), 1);
    }

    private static void promise32() {
        LakeBooks x = twoAccounts();
        due("32: no row", x.looked(), -5);
        x.set(0, 0, 7);
        x.book(0, 7);
        x.book(1, 0);
        due("32: all so", x.looked(), -5);
        x.book(0, 8);
        due("32: the third", x.looked(), 2);
        x.book(1, 1);
        due("32: the first of several", x.looked(), 2);
        x.set(1, 0, 1);
        due("32: the second", x.looked(), 1);
        x.day();
        due("32: as it is now", x.looked(), 0);
    }
}
