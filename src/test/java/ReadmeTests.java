/** The calls that README.md shows, one by one, with the answers that it tells. */
public final class ReadmeTests {
    private static final Check CHECK = new Check("ReadmeTests");

    public static void main(String[] args) {
        LakeBooks books = new LakeBooks();
        int saver = books.account(1, 3, 4), stony = books.account(4, 0, -9);
        CHECK.due("saver", saver, 0);
        CHECK.due("stony", stony, 1);
        CHECK.due("law", Check.law(books, "mark 40;rate 5;sun 2 l>10"), 0);
        CHECK.due("set(stony, 2, 6)", books.set(stony, 2, 6), 0);
        CHECK.due("day()", books.day(), 22);
        CHECK.due("on(10, 0)", books.on(10, 0), 157);
        CHECK.due("without(stony, 10)", books.without(stony, 10), -110);
        CHECK.due("mean(10, 0)", books.mean(10, 0), 20);
        CHECK.due("mean(10, 1)", books.mean(10, 1), 1);
        CHECK.due("set(saver, 2, 1)", books.set(saver, 2, 1), -10003);
        CHECK.due("of(9, 0)", books.of(9, 0), -10001);
        CHECK.due("odds(0, 0)", books.odds(0, 0), LakeBooks.NO);
        CHECK.due("dry()", books.dry(), -5);
        CHECK.end();
    }
}
