/** Counts answers that are as due, prints those that are not. */
final class Check {
    private final String name;
    private int passed, failed;

    Check(String name) {
        this.name = name;
    }

    void due(String call, long got, long want) {
        if (got == want) {
            passed++;
            return;
        }
        failed++;
        System.out.println(name + ": " + call + " answered " + got + ", due is " + want);
    }

    void holds(String what, boolean so) {
        due(what, so ? 1 : 0, 1);
    }

    /** Texts alike; where they are not, from where on. */
    void same(String what, String got, String want) {
        int i = 0;
        while (i < got.length() && i < want.length() && got.charAt(i) == want.charAt(i)) {
            i++;
        }
        holds(what + " (else from sign " + i + " on)", got.equals(want));
    }

    void end() {
        System.out.println(name + ": " + passed + " passed, " + failed + " failed");
        if (failed > 0 || passed == 0) {
            System.exit(1);
        }
    }

    static void feed(LakeBooks x, String text) {
        for (char sign : text.toCharArray()) {
            x.feed(sign);
        }
    }

    static int law(LakeBooks x, String text) {
        feed(x, text);
        return x.law();
    }

    /** All that can be asked of how things stand, as one text: for calls that must change nothing. */
    static String standing(LakeBooks x) {
        StringBuilder all = new StringBuilder();
        for (int what = 0; what <= 15; what++) {
            all.append(x.told(what)).append(' ');
        }
        for (int account = 0; account < 6; account++) {
            for (int what = 0; what <= 7; what++) {
                all.append(x.of(account, what)).append(' ');
            }
        }
        for (int what = 0; what <= 6; what++) {
            all.append(x.count(what)).append(' ');
        }
        all.append(x.planned(0)).append(' ').append(x.looked());
        return all.toString();
    }
}
