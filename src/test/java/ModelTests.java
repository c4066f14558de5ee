import java.lang.reflect.Method;
import java.util.Arrays;
import java.util.Comparator;

/** Long runs of calls, always the same ones, on LakeBooks and on the Model: each answer must be alike. */
public final class ModelTests {
    private static final Check CHECK = new Check("ModelTests");
    private static final int RUNS = 300, CALLS = 450;
    private static long seed;

    private static int below(int n) {
        seed = seed * 6364136223846793005L + 1442695040888963407L;
        return (int) ((seed >>> 33) % n);
    }

    private static int between(int least, int most) {
        return least + below(most - least + 1);
    }

    public static void main(String[] args) throws Exception {
        Method[] calls = LakeBooks.class.getDeclaredMethods();
        calls = Arrays.stream(calls).filter(m -> (m.getModifiers() & 1) == 1)
            .sorted(Comparator.comparing(Method::getName)).toArray(Method[]::new);
        CHECK.due("the calls of the face", calls.length, 42);
        for (int run = 0; run < RUNS; run++) {
            seed = run;
            below(9);
            goOn(run, calls);
        }
        faults();
        CHECK.end();
    }

    private static void goOn(int run, Method[] calls) throws Exception {
        LakeBooks real = new LakeBooks();
        Model model = new Model();
        int accounts = between(0, 6), laws = between(0, 3);
        for (int a = 0; a < accounts; a++) {
            compare(run, calls, real, model, "account", below(7), below(10), between(-14, 14));
        }
        for (int l = 0; l < laws; l++) {
            feedLaw(run, calls, real, model, 20 + below(80));
        }
        for (int i = 0; i < CALLS; i++) {
            if (below(150) == 0) {
                feedLaw(run, calls, real, model, 100);
            }
            if (below(40) == 0) {
                tellAsItIs(run, calls, real, model);
            }
            Method call = calls[below(calls.length)];
            if ((call.getName().equals("feed") || call.getName().equals("law")) && below(4) > 0) {
                continue;
            }
            if (!compare(run, calls, real, model, call.getName(), arguments(call))) {
                return;
            }
        }
    }

    /** Levels that are seen, books and tapes that are right, or nearly: else they would never be. */
    private static void tellAsItIs(int run, Method[] calls, LakeBooks real, Model model) throws Exception {
        int accounts = real.count(0);
        compare(run, calls, real, model, "see", -1, 0);
        compare(run, calls, real, model, "book", -1, 0);
        compare(run, calls, real, model, "tape", 2, 2, accounts + 1 + below(3) - below(2));
        for (int a = 0; a < accounts; a++) {
            int off = below(12) == 0 ? 1 : 0;
            compare(run, calls, real, model, "book", a, real.of(a, 2) + off);
            compare(run, calls, real, model, "item", 2, a + 1, (long) real.of(a, 2) + off);
            compare(run, calls, real, model, "set", a, 2, below(21));
            compare(run, calls, real, model, "row", a, below(4), below(10));
        }
        seeAsWere(run, calls, real, model, accounts);
        for (int a = -1; a <= accounts; a++) {
            compare(run, calls, real, model, "hidden", a, 0);
            compare(run, calls, real, model, "hidden", a, 1);
        }
        compare(run, calls, real, model, "whose");
        compare(run, calls, real, model, "looked");
        compare(run, calls, real, model, "judge", 2, 1);
        compare(run, calls, real, model, "judge", 2, 0);
    }

    private static void seeAsWere(int run, Method[] calls, LakeBooks real, Model model, int accounts)
            throws Exception {
        Model.World world = accounts > 0 && below(2) == 0 ? model.now.without(below(accounts)) : model.now;
        for (int i = below(4); i >= 0; i--) {
            int days = below(21);
            compare(run, calls, real, model, "see", days, world.on(days).level());
        }
    }

    private static Object[] arguments(Method call) {
        Object[] values = new Object[call.getParameterCount()];
        for (int p = 0; p < values.length; p++) {
            int n = number(call.getName(), p);
            if (call.getParameterTypes()[p] == long.class) {
                values[p] = longFrom(n);
            } else {
                values[p] = n;
            }
        }
        return values;
    }

    private static long longFrom(int n) {
        return below(3) == 0 ? seed : n;
    }

    /** Numbers such as the call asks for, its edges, and at times any number. */
    private static int number(String call, int p) {
        switch (below(60)) {
            case 0: return Integer.MIN_VALUE + below(3);
            case 1: return Integer.MAX_VALUE - below(3);
            case 2: return between(-130, 130);
            case 3: return -1;
            default: break;
        }
        switch (call + p) {
            case "area1": return between(0, 21);
            case "volume0": return between(-1, 61);
            case "account1": return between(0, 10);
            case "account2": case "plan1": return between(-31, 31);
            case "set1": return between(0, 2);
            case "set2": return below(4) == 0 ? between(-1005, 1005) : between(-31, 31);
            case "row1": return between(0, 4);
            case "row2": return between(0, 10);
            case "water0": return below(4) == 0 ? between(0, 10005) : between(0, 600);
            case "feed0": return between(-1, 128);
            case "told0": return between(-1, 16);
            case "on0": case "lowest0": case "without1": case "share1": case "richest0": case "mean0":
                return between(0, 41);
            case "on1": return below(3) > 0 ? between(9, 16) : between(-1, 3);
            case "ruined0": return below(2) == 0 ? between(0, 60) : between(-1, 1000);
            case "may1": return between(0, 13);
            case "enough1": return below(2) == 0 ? between(-30, 90) : between(-1000, 1000);
            case "wells0": return between(0, 11);
            case "see0": return between(-1, 21);
            case "see1": return between(-1, 61);
            case "odds0": return between(0, 21);
            case "share2": case "odds1": case "mean1": case "planned0": case "hidden1": return between(0, 1);
            case "book1": return below(3) == 0 ? between(-10001, 10001) : between(-20, 20);
            case "judge1": case "item1": case "read1": return between(-1, 8);
            case "tape1": return between(-1, 5);
            case "tape2": return below(6) == 0 ? between(-2, 62) : between(0, 12);
            case "shift1": case "shift3": return between(-1, 8);
            case "shift4": return between(-1, 7);
            case "act2": return below(3) == 0 ? (int) seed : between(-9, 99);
            case "act1": return between(0, 3);
            case "trace0": return between(-1, 21);
            default: return between(0, 6);
        }
    }

    private static void feedLaw(int run, Method[] calls, LakeBooks real, Model model, int room) throws Exception {
        String text = lawText(room);
        for (char sign : text.toCharArray()) {
            compare(run, calls, real, model, "feed", (int) sign);
        }
        compare(run, calls, real, model, "law");
    }

    private static String lawText(int room) {
        StringBuilder text = new StringBuilder(clause());
        for (int c = 1; c < 12; c++) {
            String next = clause();
            if (text.length() + next.length() + 1 <= room) {
                text.append(';').append(next);
            }
        }
        if (below(6) == 0) {
            text.setCharAt(below(text.length()), "; 1d=!(&|)<sx".charAt(below(13)));
        }
        if (below(12) == 0) {
            text.setLength(below(text.length() + 1));
        }
        return text.toString();
    }

    private static String clause() {
        switch (below(8)) {
            case 0: return "mark " + below(70);
            case 1: return "floor " + below(25);
            case 2: return "rate " + below(below(3) == 0 ? 100 : 12);
            case 3: case 4: return "spring " + below(30) + " " + either(below(3));
            default: return "sun " + below(12) + " " + either(below(3));
        }
    }

    private static String either(int nest) {
        StringBuilder text = new StringBuilder(factor(nest));
        for (int i = below(4); i > 0; i--) {
            text.append(below(2) == 0 ? '|' : '&').append(factor(nest));
        }
        return text.toString();
    }

    private static String factor(int nest) {
        int choice = nest <= 0 ? 9 : below(6);
        if (choice == 0) {
            return "!" + factor(nest - 1);
        }
        if (choice == 1) {
            return "(" + either(nest - 1) + ")";
        }
        String letter = "" + "dmlakb".charAt(below(6));
        int most = letter.equals("l") ? 60 : letter.equals("b") ? 30 : letter.equals("d") ? 10 : 6;
        return letter + "<=>".charAt(below(3)) + below(most);
    }

    private static boolean compare(int run, Method[] calls, LakeBooks real, Model model, String name,
            Object... values) throws Exception {
        Method call = Arrays.stream(calls).filter(m -> m.getName().equals(name)).findFirst().get();
        Method same = Model.class.getMethod(name, call.getParameterTypes());
        long got = ((Number) call.invoke(real, values)).longValue();
        long want = ((Number) same.invoke(model, values)).longValue();
        CHECK.due("run " + run + ": " + name + Arrays.toString(values), got, want);
        return got == want;
    }

    /** Texts by signs of the grammar, most of them wrong: where the fault is. */
    private static void faults() {
        String signs = "sdmlakb<=>0123!!((())&&||;; ";
        for (int i = 0; i < 60000; i++) {
            seed = i * 31L + 7;
            below(3);
            StringBuilder text = new StringBuilder(below(2) == 0 ? lawText(100) : "sun 1 ");
            if (text.length() == 6) {
                for (int n = below(20); n > 0; n--) {
                    text.append(below(3) == 0 ? factor(0) : "" + signs.charAt(below(signs.length())));
                }
            }
            if (text.length() > 100) {
                text.setLength(100);
            }
            int fault = Model.fault(text.toString());
            CHECK.due("law() of " + text, Check.law(new LakeBooks(), text.toString()), fault < 0 ? 0 : -10 - fault);
        }
    }
}
