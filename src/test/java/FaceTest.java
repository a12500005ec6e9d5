import java.lang.reflect.Constructor;
import java.lang.reflect.Field;
import java.lang.reflect.Method;
import java.lang.reflect.Modifier;
import java.util.Arrays;
import java.util.Set;
import java.util.TreeSet;

/** The public face is the document's, and nothing beside it. */
public final class FaceTest {
    private static final String[] FACE = {
        "int type(int)", "int clear()", "int shop()", "int holds(int,int)", "int grows(int,int)",
        "int weight(int)", "int heavy(int)", "int known(int,int)", "int now(int)", "int tells(int,int,int)",
        "int keeps(int,int)", "int day()", "int weighs(int,int)", "int forgets()", "int undo()",
        "int beam(int,int)", "int level(int,int,int)", "int when(int,int)", "long odds(int,int,int,int,int)",
        "int brass(int,int)", "int shows(int,int,int)", "int can(int,int)", "int saw(int,int)",
        "int laws(int,int)", "int clean()", "int rate(int,int)", "int keep(int)", "int back(int)",
        "int count(int)", "long trace()"};

    public static void main(String[] args) throws IllegalAccessException {
        Check check = new Check("FaceTest");
        check.part("the face");
        Class<?> face = UnsaidScales.class;
        check.that("public and final", Modifier.isPublic(face.getModifiers()) && Modifier.isFinal(face.getModifiers()));
        check.that("without a package", face.getPackageName().isEmpty());
        check.that("no class above it", face.getSuperclass() == Object.class && face.getInterfaces().length == 0);
        Constructor<?>[] constructors = face.getDeclaredConstructors();
        check.same("constructors", constructors.length, 1);
        check.that("public, without parameters", Modifier.isPublic(constructors[0].getModifiers())
            && constructors[0].getParameterCount() == 0);
        methods(check, face);
        constants(check, face);
        for (Class<?> inside : face.getDeclaredClasses()) {
            int m = inside.getModifiers();
            check.that(inside + " is static and not public", Modifier.isStatic(m) && !Modifier.isPublic(m)
                && !Modifier.isProtected(m));
        }
        check.end();
    }

    private static void methods(Check check, Class<?> face) {
        Set<String> due = new TreeSet<>(Arrays.asList(FACE));
        Set<String> names = new TreeSet<>();
        for (String line : FACE) {
            names.add(line.substring(line.indexOf(' ') + 1, line.indexOf('(')));
        }
        Set<String> found = new TreeSet<>();
        for (Method method : face.getDeclaredMethods()) {
            if (Modifier.isPrivate(method.getModifiers()) || method.isSynthetic()) {
                check.that("no private method is named " + method.getName(), !names.contains(method.getName()));
                continue;
            }
            String line = method.toString().replaceAll(".*?(int|long) UnsaidScales\\.", "$1 ");
            found.add(line);
            check.that(method + " is public and no more", method.getModifiers() == Modifier.PUBLIC);
        }
        check.that("methods " + found, found.equals(due));
        for (Class<?> inside : face.getDeclaredClasses()) {
            for (Method method : inside.getDeclaredMethods()) {
                check.that("no method inside is named " + method.getName(), !names.contains(method.getName()));
            }
        }
    }

    private static void constants(Check check, Class<?> face) throws IllegalAccessException {
        check.same("BAD", UnsaidScales.BAD, -1);
        check.same("STATE", UnsaidScales.STATE, -2);
        check.same("FULL", UnsaidScales.FULL, -3);
        check.same("NONE", UnsaidScales.NONE, -9);
        check.same("NO", UnsaidScales.NO, -1000000);
        int visible = 0;
        for (Field field : face.getDeclaredFields()) {
            int m = field.getModifiers();
            check.that(field + ", if static, is final", !Modifier.isStatic(m) || Modifier.isFinal(m));
            if (!Modifier.isPrivate(m)) {
                visible++;
                check.that(field + " is a constant", m == (Modifier.PUBLIC | Modifier.STATIC | Modifier.FINAL));
            }
        }
        check.same("constants", visible, 5);
    }
}
