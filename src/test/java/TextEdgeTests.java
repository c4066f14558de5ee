import java.lang.reflect.Field;

/** The edges of THE TEXT and of the laws read from it (promises 9 and 10): where a law ends, where its fault is. */
public final class TextEdgeTests {
    private static final Check CHECK = new Check("TextEdgeTests");

    /** Laws; behind each ` what stands ahead is a law already. */
    private static final String[] MARKED = {
        "mark 1`2`;floor 3`4`;rate 5`6`",
        "floor 0`;mark 0`0`",
        "rate 9`9`;spring 1 d=1`2`;sun 98 m<0`9`",
        "spring 0 d=1`&m<2`3`|l>4`5`;mark 7`",
        "sun 12 (a=1|k=2)`;sun 1 !b>3`4`&!(b<5)`",
        "sun 3 ((((d=1))))`&!!!!d=1`|!(!(d>0|a<9))`",
        "spring 9 d=0`|d=1`&d=2`|!d=3`&(d=4|d=5`&d=6)`".replace("5`&", "5&"),
        "sun 1 b<1`0`;spring 1 k>6`;sun 1 l=6`0`;floor 9`",
    };

    public static void main(String[] args) throws Exception {
        for (String marked : MARKED) {
            prefixes(marked);
            wrongSigns(marked.replace("`", ""));
            oneSignOff(marked.replace("`", ""));
        }
        nothingBetween();
        nothingIsLeft();
        emptyAndFull();
        clauses();
        nests();
        digitsAndBlanks();
        whatHeldHolds();
        sixLaws();
        dayTests();
        levelTests();
        accountTests();
        bucketTests();
        withoutAnAccount();
        pastDays();
        CHECK.end();
    }

    private static void law(String text, int due) {
        LakeBooks x = new LakeBooks();
        Check.feed(x, text);
        CHECK.due("9: count(5) of " + text, x.count(5), text.length());
        CHECK.due("10: law() of " + text, x.law(), due);
        CHECK.due("10: THE TEXT is empty behind " + text, x.count(5), 0);
        CHECK.due("39: LAWS behind " + text, x.count(1), due == 0 ? 1 : 0);
    }

    /** A text that ends too early has its fault at its end, whatever longer text was read ahead of it. */
    private static void prefixes(String marked) {
        String whole = marked.replace("`", "");
        StringBuilder text = new StringBuilder();
        for (int i = 0; i < marked.length(); i++) {
            boolean ends = i + 1 < marked.length() && marked.charAt(i + 1) == '`';
            if (marked.charAt(i) != '`') {
                text.append(marked.charAt(i));
                law(text.toString(), ends ? 0 : -10 - text.length());
                LakeBooks x = new LakeBooks();
                CHECK.due("10: a longer text", Check.law(x, whole + "x"), -10 - whole.length());
                CHECK.due("10: " + text + " behind " + whole, Check.law(x, text.toString()),
                    ends ? 0 : -10 - text.length());
            }
        }
    }

    /** Of wrong texts nothing is left, however many were read and however long: not of what holds, nor of what not. */
    private static void nothingIsLeft() {
        for (int wrongs = 0; wrongs < 6; wrongs++) {
            for (int other = 0; other <= 1; other++) {
                LakeBooks x = new LakeBooks();
                x.account(0, 0, 0);
                for (int wrong = 0; wrong < wrongs; wrong++) {
                    String text = "mark 7;rate 8;sun 1 " + ("d=" + other + "|").repeat(19) + "d=" + other + "x";
                    CHECK.due("10: " + text, Check.law(x, text), -10 - 99);
                }
                String test = " d=" + (1 - other);
                CHECK.due("10: a law behind " + wrongs, Check.law(x, "spring 10" + test + ";sun 20" + test), 0);
                CHECK.due("10: SPRING behind " + wrongs, x.told(7), other == 1 ? 15 : 5);
                CHECK.due("10: SUN behind " + wrongs, x.of(0, 7), other == 1 ? 20 : 0);
                CHECK.due("10: MARK behind " + wrongs, x.told(4), 50);
                CHECK.due("10: FLOOR behind " + wrongs, x.told(5), 5);
                CHECK.due("10: RATE behind " + wrongs, x.told(6), 0);
            }
        }
    }

    /** The fault is the place of the first sign with which no law begins so. */
    private static void wrongSigns(String text) {
        for (int p = 0; p <= text.length(); p++) {
            for (char wrong : new char[] {0, 10, 'x', 'D', '/', ':', 127}) {
                String rest = p < text.length() ? text.substring(p + 1) : "";
                law(text.substring(0, p) + wrong + rest, -10 - p);
            }
        }
    }

    /** One sign less, one more, or another: where the fault is then is told by the pattern that the Model has. */
    private static void oneSignOff(String text) {
        String signs = "sdmlakbe<=>09!()&|; ";
        for (int p = 0; p <= text.length(); p++) {
            for (int i = 0; i < signs.length(); i++) {
                byPattern(text.substring(0, p) + signs.charAt(i) + text.substring(p));
                if (p < text.length()) {
                    byPattern(text.substring(0, p) + signs.charAt(i) + text.substring(p + 1));
                }
            }
            if (p < text.length()) {
                byPattern(text.substring(0, p) + text.substring(p + 1));
            }
        }
    }

    private static void byPattern(String text) {
        int fault = Model.fault(text);
        CHECK.due("10: law() of " + text, Check.law(new LakeBooks(), text), fault < 0 ? 0 : -10 - fault);
    }

    /** What must stand between two parts. */
    private static void nothingBetween() {
        law("mark 1mark 2", -10 - 6);
        law("mark 12mark 2", -10 - 7);
        law("sun 1 d=1sun 1 d=1", -10 - 9);
        law("sun 1 d=12sun 1 d=1", -10 - 10);
        law("mark 1 mark 2", -10 - 6);
        law("mark 1,mark 2", -10 - 6);
        law("sun 1 d=1d=1", -10 - 9);
        law("sun 1 d=1!d=1", -10 - 9);
        law("sun 1 (d=1)(d=1)", -10 - 11);
        law("sun 1 (d=1)d=1", -10 - 11);
        law("sun 1 d=1(d=1)", -10 - 9);
        law("sun 1 (d=1)sun 1 d=1", -10 - 11);
    }

    private static void emptyAndFull() {
        law("", -10);
        law(" ", -10);
        law(";", -10);
        law("0", -10);
        String almost = "sun 33 " + "d=00&".repeat(2) + "d=0&".repeat(20);
        CHECK.due("97 bytes", almost.length(), 97);
        law(almost + "d=0", 0);
        law(almost + "d=", -10 - 99);
        law(almost + "d=x", -10 - 99);
        law(almost + "d!0", -10 - 98);
        law(almost.substring(3) + "d=0000", -10);
        law("sun 3 " + "d=00&".repeat(2) + "d=0&".repeat(20) + "d=0&", -10 - 100);
        law("mark 1;".repeat(9) + "sun 1 " + "d=00&".repeat(6) + "!", -10 - 100);
    }

    private static void clauses() {
        for (int count = 1; count <= 10; count++) {
            law("mark 1;".repeat(count - 1) + "floor 2", 0);
            law("mark 1;".repeat(count), -10 - (count < 10 ? 7 * count : 69));
        }
        law("mark 1;".repeat(10) + "floor 2", -10 - 69);
        law("mark 1;".repeat(9) + "floor 23;", -10 - 71);
        law("sun 1 a=1;".repeat(9) + "sun 1 a=1", 0);
        law("sun 1 a=1;".repeat(10), -10 - 99);
        law("mark 1;;", -10 - 7);
    }

    private static void nests() {
        String[] four = {"((((d=1))))", "!!!!d=1", "(!(!d=1))", "!(!(d=1))", "!!!(d=1)", "(((!d=1)))",
            "(((d=1)&!d=2))", "((((d=1)|(d=2))&(d=3)))", "((((d=1))))&((((d=1))))", "!!!!d=1|!!!!d=1",
            "((((d=1))|(!d=2)))", "(d=1)&!!!!d=1", "!!!!d=1|((((d=0))))"};
        for (String e : four) {
            law("sun 1 " + e, 0);
            law("spring 1 " + e + ";mark 3", 0);
        }
        String[] five = {"((((`(d=1)))))", "!!!!`!d=1", "!!!!`(d=1)", "((((`!d=1))))", "(!(!`(d=1)))", "(!(!`!d=1))",
            "((((d=1|`(d=2)))))", "((((d=1&`!d=2))))", "!(!(`!!d=1))", "(((d=1)&!(`(d=2))))",
            "((((d=1))))&((((`(d=1)))))"};
        for (String e : five) {
            law("sun 1 " + e.replace("`", ""), -10 - 6 - e.indexOf('`'));
        }
        law("sun 1 ((((d=1)))))", -10 - 17);
        law("sun 1 ((((d=1)))", -10 - 16);
        law("sun 1 (d=1;mark 2)", -10 - 10);
        law("sun 1 )", -10 - 6);
    }

    private static void digitsAndBlanks() {
        for (String word : new String[] {"mark", "floor", "rate"}) {
            int at = word.length();
            law(word, -10 - at);
            law(word + "1", -10 - at);
            law(word + " ", -11 - at);
            law(word + "  1", -11 - at);
            law(word + " -1", -11 - at);
            law(word + " +1", -11 - at);
            law(word + " 0", 0);
            law(word + " 99", 0);
            law(word + " 000", -13 - at);
            law(word + " 1 ", -12 - at);
            law(word + " 1 d=1", -12 - at);
            law(word + " 12 ;mark 1", -13 - at);
            law(word + " 12; mark 1", -14 - at);
        }
        for (String word : new String[] {"spring", "sun"}) {
            int at = word.length();
            law(word + "1 d=1", -10 - at);
            law(word + "  1 d=1", -11 - at);
            law(word + " d=1", -11 - at);
            law(word + " 1", -12 - at);
            law(word + " 1d=1", -12 - at);
            law(word + " 1;mark 1", -12 - at);
            law(word + " 1  d=1", -13 - at);
            law(word + " 0 d=0", 0);
            law(word + " 99 d=99", 0);
            law(word + " 100 d=1", -13 - at);
            law(word + " 1 d=100", -17 - at);
            law(word + " 1 d =1", -14 - at);
            law(word + " 1 d= 1", -15 - at);
            law(word + " 1 d=1 &d=1", -16 - at);
            law(word + " 1 d=1& d=1", -17 - at);
            law(word + " 1 ( d=1)", -14 - at);
            law(word + " 1 ! d=1", -14 - at);
            law(word + " 1 d<=1", -15 - at);
            law(word + " 1 d=1;" + word + " 1 d=1 ", -17 - at - word.length() - 6);
        }
    }

    private static void whatHeldHolds() {
        LakeBooks x = new LakeBooks();
        x.account(1, 0, 0);
        Check.law(x, "mark 44;floor 22;rate 11;sun 3 a=0;spring 7 d=0");
        String[] wrongs = {"", "x", "mark 1;floor 2;rate 3;sun 4 a=0;spring 5 d=0;",
            "mark 1;floor 2;rate 3;sun 4 a=0;spring 5 d=0x"};
        int[] faults = {0, 0, 45, 44};
        for (int i = 0; i < wrongs.length; i++) {
            String wrong = wrongs[i];
            CHECK.due("10: " + wrong, Check.law(x, wrong), -10 - faults[i]);
            int[] due = {20, 44, 22, 11, 12};
            for (int what = 3; what <= 7; what++) {
                CHECK.due("10: told(" + what + ") behind " + wrong, x.told(what), due[what - 3]);
            }
            CHECK.due("10: sun behind " + wrong, x.of(0, 7), 3);
            CHECK.due("10: LAWS behind " + wrong, x.count(1), 1);
        }
        CHECK.due("10: the next one's number", Check.law(x, "mark 1"), 1);
        CHECK.due("10: the newest holds", x.told(4), 1);
        CHECK.due("10: without its clauses", x.told(7), 5);
    }

    private static void sixLaws() {
        LakeBooks x = new LakeBooks();
        for (int law = 0; law < 6; law++) {
            CHECK.due("10: a wrong one is none of six", Check.law(x, "mark"), -14);
            CHECK.due("10: law " + law, Check.law(x, "mark " + law), law);
            CHECK.due("10: it holds", x.told(4), law);
        }
        CHECK.due("10: a seventh of an empty text", x.law(), -4);
        Check.feed(x, "mark");
        CHECK.due("10: a seventh, FULL ahead of its fault", x.law(), -4);
        CHECK.due("10: THE TEXT stays", x.count(5), 4);
        Check.feed(x, " 9");
        CHECK.due("10: a seventh that is a law", x.law(), -4);
        CHECK.due("10: THE TEXT stays", x.count(5), 6);
        CHECK.due("10: the sixth holds", x.told(4), 5);
        x.image();
        x.undo();
        CHECK.due("10: a seventh behind undo()", x.law(), -4);
    }

    /** A letter's value is v: in spring clauses, or in sun clauses of account 0. In three laws of an object's six. */
    private static void valued(LakeBooks x, String letter, int v) {
        boolean spring = "dml".contains(letter);
        for (char relation : new char[] {'<', '=', '>'}) {
            StringBuilder text = new StringBuilder("mark 50");
            int due = 0, n = 1;
            for (int number = Math.max(0, v - 1); number <= Math.min(99, v + 1); number++) {
                boolean so = relation == '<' ? v < number : relation == '=' ? v == number : v > number;
                text.append(spring ? ";spring " : ";sun ").append(n).append(' ');
                text.append(letter).append(relation).append(number);
                due += so ? n : 0;
                n *= 2;
            }
            CHECK.holds("10: it is a law: " + text, Check.law(x, text.toString()) >= 0);
            CHECK.due("10: " + text + ", being " + v, spring ? x.told(7) - 5 : x.of(0, 7), due);
        }
    }

    private static LakeBooks onDay(int day) {
        LakeBooks x = new LakeBooks();
        for (int d = 0; d < day; d++) {
            x.day();
        }
        return x;
    }

    private static void dayTests() {
        int[][] rows = {{0, 0, 0}, {1, 1, 0}, {9, 9, 0}, {10, 0, 1}, {11, 1, 1}, {19, 9, 1}, {20, 0, 2}, {99, 9, 9},
            {100, 0, 10}, {109, 9, 10}, {110, 0, 11}, {400, 0, 40}};
        for (int[] row : rows) {
            LakeBooks x = onDay(row[0]);
            valued(x, "d", row[1]);
            valued(x, "m", row[2]);
        }
    }

    private static void levelTests() {
        int[][] rows = {{0, 0}, {9, 0}, {10, 1}, {599, 59}, {600, 60}, {9999, 60}};
        for (int[] row : rows) {
            LakeBooks x = new LakeBooks();
            x.water(row[0]);
            valued(x, "l", row[1]);
        }
        LakeBooks x = new LakeBooks();
        x.water(9);
        x.account(3, 1, 0);
        valued(x, "l", 1);
    }

    private static void accountTests() {
        for (int kind = 0; kind <= 6; kind++) {
            LakeBooks x = new LakeBooks();
            x.account(kind, 0, 0);
            valued(x, "k", kind);
            valued(x, "a", 0);
        }
        LakeBooks x = new LakeBooks();
        for (int a = 0; a < 6; a++) {
            x.account(0, 0, 0);
        }
        for (int a = 0; a < 6; a++) {
            Check.law(x, "sun 1 a<" + a + ";sun 2 a=" + a + ";sun 4 a>" + a);
            for (int other = 0; other < 6; other++) {
                CHECK.due("10: a of " + other, x.of(other, 7), other < a ? 1 : other == a ? 2 : 4);
            }
        }
    }

    /** b is BUCKETS by 10, cut toward 0. */
    private static void bucketTests() {
        int[][] rows = {{0, 0}, {1, 0}, {9, 0}, {10, 1}, {19, 1}, {20, 2}, {989, 98}, {990, 99}, {999, 99},
            {-1, 0}, {-9, 0}, {-10, -1}, {-19, -1}, {-20, -2}, {-999, -99}};
        for (int[] row : rows) {
            LakeBooks x = new LakeBooks();
            x.account(0, 0, 0);
            x.set(0, 0, row[0]);
            valued(x, "b", row[1]);
            Check.law(x, "sun 1 b<0;sun 2 b=0;sun 4 b>0");
            CHECK.due("10: b of " + row[0], x.of(0, 7), row[1] < 0 ? 1 : row[1] == 0 ? 2 : 4);
        }
        LakeBooks x = new LakeBooks();
        x.account(0, 0, 1);
        x.set(0, 0, 999);
        Check.law(x, "sun 1 b>99;sun 2 b=99");
        CHECK.due("10: b of 999", x.of(0, 7), 2);
        Check.law(x, "mark 50");
        x.day();
        Check.law(x, "sun 1 b>99;sun 2 b=99;sun 4 b<99");
        CHECK.due("10: b of 1000", x.of(0, 7), 1);
    }

    private static void withoutAnAccount() {
        String[] nine = {"a", "k", "b"};
        for (String letter : nine) {
            LakeBooks x = new LakeBooks();
            x.account(0, 0, 0);
            String law = "spring 1 " + letter + "<9;spring 2 " + letter + "=9;spring 4 " + letter + ">9";
            Check.law(x, law + ";spring 8 " + letter + "=8;spring 16 " + letter + "<10");
            CHECK.due("10: " + letter + " without an account", x.told(7), 5 + 2 + 16);
            LakeBooks y = new LakeBooks();
            Check.law(y, law);
            CHECK.due("10: " + letter + " when nobody is there", y.told(7), 5 + 2);
        }
    }

    /** No run of 512 calls gets there, so the test puts the day itself: m is 99 at most. */
    private static void pastDays() throws Exception {
        int[][] rows = {{979, 9, 97}, {989, 9, 98}, {990, 0, 99}, {999, 9, 99}, {1000, 0, 99}, {9990, 0, 99},
            {9999, 9, 99}};
        for (int[] row : rows) {
            LakeBooks x = new LakeBooks();
            Field now = LakeBooks.class.getDeclaredField("now");
            now.setAccessible(true);
            Field day = now.get(x).getClass().getDeclaredField("day");
            day.setAccessible(true);
            day.setInt(now.get(x), row[0]);
            valued(x, "d", row[1]);
            valued(x, "m", row[2]);
        }
    }
}
