/** Towns that are always the same ones, and all that can be seen of a town: for calls that must change nothing. */
final class Town {
    private Town() {
    }

    /** Every part is in use, each of the TAPES but one is a row of another sort, and there is room for more of all. */
    static LakeBooks made() {
        LakeBooks x = new LakeBooks();
        x.area(1, 3);
        x.account(4, 2, 3);
        x.account(6, 5, -4);
        x.account(5, 7, 9);
        x.account(3, 6, 0);
        x.set(0, 2, 4);
        x.row(1, 2, 8);
        Check.law(x, "rate 9;spring 3 d<7");
        x.see(0, 19);
        x.plan(1, 7);
        x.book(2, 5);
        x.image();
        x.account(1, 1, 2);
        x.set(4, 0, 300);
        x.set(0, 0, 100);
        x.set(0, 2, 9);
        x.row(1, 1, 3);
        x.water(333);
        Check.law(x, "mark 55;floor 7;rate 5;sun 3 k=6|b>20");
        x.day();
        x.see(2, 40);
        x.plan(0, -7);
        x.plan(4, 1);
        x.book(4, 300);
        x.act(1, 2, 5);
        Check.feed(x, "mark 7");
        for (int sort = 0; sort <= 4; sort++) {
            x.tape(sort, sort, 3);
            x.item(sort, 1, 0x7171717171L + sort);
        }
        return x;
    }

    /** Nothing has room for more, but for THE TEXT. */
    static LakeBooks full() {
        LakeBooks x = new LakeBooks();
        for (int a = 0; a < 6; a++) {
            x.account(a + 1, a, 4 - 2 * a);
            x.tape(a, 2, 60);
            x.item(a, 59, a + 1);
        }
        x.set(3, 2, 20);
        for (int law = 0; law < 6; law++) {
            Check.law(x, "mark " + (54 - law));
        }
        for (int r = 0; r < 8; r++) {
            x.see(r, 25 + r);
            x.plan(r % 6, r);
            x.book(r % 6, 10 * r);
        }
        x.act(5, 2, 1);
        x.image();
        x.day();
        x.feed('m');
        return x;
    }

    /** Near its floor, so that what is asked has answers within its bounds and not at them. */
    static LakeBooks poor() {
        LakeBooks x = new LakeBooks();
        x.water(64);
        x.account(0, 2, -9);
        x.account(1, 3, -2);
        x.account(4, 1, 1);
        x.account(5, 4, 0);
        x.set(0, 0, 7);
        x.set(2, 2, 2);
        Check.law(x, "sun 4 a=1|d=3;spring 2 m=0;floor 4");
        x.see(0, 7);
        x.plan(0, 2);
        x.plan(1, -3);
        x.book(0, 8);
        x.image();
        x.water(61);
        x.day();
        return x;
    }

    /** THE TEXT has no room for more, and is a law that its last byte belongs to. */
    static LakeBooks texted() {
        LakeBooks x = new LakeBooks();
        x.account(0, 0, 1);
        x.image();
        Check.feed(x, "sun 33 " + "a=00&".repeat(2) + "a=0&".repeat(20) + "a=0");
        return x;
    }

    /** All that can be asked without a change, in some 200 calls. */
    static String seen(LakeBooks x) {
        StringBuilder all = new StringBuilder();
        for (int what = 0; what <= 15; what++) {
            tell(all, x.told(what));
            tell(all, x.on(5, what));
            tell(all, x.count(what));
        }
        for (int account = 0; account < 6; account++) {
            for (int what = 0; what <= 7; what++) {
                tell(all, x.of(account, what));
            }
            tell(all, x.hidden(account, 0));
            tell(all, x.judge(account, 0));
            for (int i = 0; i < 3; i++) {
                tell(all, x.read(account, i));
            }
            tell(all, x.read(account, 59));
        }
        for (int i = 0; i < 14; i++) {
            tell(all, x.trace(i));
        }
        tell(all, x.planned(0));
        tell(all, x.planned(1));
        tell(all, x.looked());
        tell(all, x.whose());
        tell(all, x.mean(9, 0));
        tell(all, x.lifted());
        return all.toString();
    }

    /** Also what shows only by a change: THE TEXT by its law, THE IMAGE by what is undone. For this no call more. */
    static String whole(LakeBooks x) {
        StringBuilder all = new StringBuilder(seen(x));
        tell(all, x.law());
        for (int what = 3; what <= 7; what++) {
            tell(all, x.told(what));
        }
        tell(all, x.count(1));
        tell(all, x.of(0, 7));
        tell(all, x.undo());
        return all.append(seen(x)).toString();
    }

    private static void tell(StringBuilder all, long n) {
        all.append(n).append(' ');
    }
}
