import java.lang.reflect.Constructor;
import java.lang.reflect.Field;
import java.lang.reflect.Method;
import java.lang.reflect.Modifier;
import java.util.Arrays;
import java.util.Set;
import java.util.TreeSet;

/** The face is the document's, to the letter, and what LANGUAGE.md says of members that can be seen from outside. */
public final class FaceTests {
    private static final Check CHECK = new Check("FaceTests");
    private static final String[] FACE = {
        "int area(int, int)", "int volume(int)", "int account(int, int, int)", "int of(int, int)",
        "int set(int, int, int)", "int row(int, int, int)", "int water(int)", "int feed(int)", "int law()",
        "int told(int)", "int day()", "int on(int, int)", "int dry()", "int lowest(int)", "int ruined(int)",
        "int may(int, int)", "int enough(int, int)", "int lifted()", "int without(int, int)", "int wells(int)",
        "long share(int, int, int)", "int richest(int)", "int see(int, int)", "int hidden(int, int)", "int whose()",
        "long odds(int, int)", "long mean(int, int)", "int plan(int, int)", "int planned(int)", "int book(int, int)",
        "int looked()", "int judge(int, int)", "int image()", "int undo()", "int act(int, int, int)",
        "int trace(int)", "int taken(int, int)", "int count(int)", "int tape(int, int, int)",
        "int item(int, int, long)", "long read(int, int)", "int shift(int, int, int, int, int)"};

    public static void main(String[] args) throws Exception {
        constants();
        face();
        members(LakeBooks.class, faceNames());
        Class<?>[] inside = LakeBooks.class.getDeclaredClasses();
        CHECK.holds("twelve classes at most", inside.length + 1 <= 12);
        for (Class<?> one : inside) {
            CHECK.holds(one + " is static", Modifier.isStatic(one.getModifiers()));
            CHECK.holds(one + " is not public", !Modifier.isPublic(one.getModifiers())
                && !Modifier.isProtected(one.getModifiers()));
            members(one, faceNames());
        }
        CHECK.end();
    }

    private static void constants() {
        CHECK.due("NONE", LakeBooks.NONE, -1);
        CHECK.due("BAD", LakeBooks.BAD, -2);
        CHECK.due("STATE", LakeBooks.STATE, -3);
        CHECK.due("FULL", LakeBooks.FULL, -4);
        CHECK.due("NO", LakeBooks.NO, Long.MIN_VALUE);
    }

    private static void face() throws Exception {
        CHECK.holds("public final", LakeBooks.class.getModifiers() == (Modifier.PUBLIC | Modifier.FINAL));
        Constructor<?>[] made = LakeBooks.class.getDeclaredConstructors();
        CHECK.due("constructors", made.length, 1);
        CHECK.holds("a public constructor without arguments",
            made[0].getParameterCount() == 0 && Modifier.isPublic(made[0].getModifiers()));
        Set<String> seen = new TreeSet<>(), asked = new TreeSet<>(Arrays.asList(FACE));
        for (Method method : LakeBooks.class.getDeclaredMethods()) {
            if (!Modifier.isPrivate(method.getModifiers())) {
                String types = Arrays.toString(method.getParameterTypes()).replace("[", "(").replace("]", ")");
                seen.add(method.getReturnType() + " " + method.getName() + types);
                CHECK.holds(method + " is public and no more", method.getModifiers() == Modifier.PUBLIC);
            }
        }
        CHECK.holds("the face " + seen, seen.equals(asked));
        Set<String> fields = new TreeSet<>();
        for (Field field : LakeBooks.class.getDeclaredFields()) {
            if (!Modifier.isPrivate(field.getModifiers())) {
                fields.add(field.getName());
            }
        }
        CHECK.holds("the constants " + fields, fields.equals(Set.of("NONE", "BAD", "STATE", "FULL", "NO")));
    }

    private static Set<String> faceNames() {
        Set<String> names = new TreeSet<>();
        for (String call : FACE) {
            names.add(call.substring(call.indexOf(' ') + 1, call.indexOf('(')));
        }
        return names;
    }

    private static void members(Class<?> one, Set<String> names) {
        int fields = 0;
        for (Field field : one.getDeclaredFields()) {
            boolean constant = Modifier.isStatic(field.getModifiers());
            fields += constant ? 0 : 1;
            CHECK.holds(field + " is final, being static", !constant || Modifier.isFinal(field.getModifiers()));
        }
        CHECK.holds(one + " has some twenty fields at most: " + fields, fields <= 20);
        for (Method method : one.getDeclaredMethods()) {
            CHECK.holds(method + " takes seven at most", method.getParameterCount() <= 7);
            CHECK.holds(method + " bears no name of the face, not being of it",
                Modifier.isPublic(method.getModifiers()) || !names.contains(method.getName()));
        }
    }
}
