import java.lang.reflect.Constructor;
import java.lang.reflect.Field;
import java.lang.reflect.Method;
import java.lang.reflect.Modifier;
import java.util.Arrays;
import java.util.TreeSet;

/** The public face: its constants, its constructor, its methods, and nothing else that others can see. */
public final class FaceTest {
    private static final String[] FACE = {
        "int type(long, int)", "int clear()", "int land()", "int gives(int, int, int)", "int keep(int, int)",
        "int town(int, int)", "int work(int, int)", "int most(int, int, int)", "int price(int, int, int, int)",
        "int edge(int, int, int, int)", "int delta(int, int, int, int)", "int send(int, int)",
        "int judge(int, int, int)", "int year(int, int)", "int best(int, int)", "int order(int, int, int)",
        "long mean(int, int, int)", "int dam(int, int, int, int)", "int lake(int, int)", "int level(int, int)",
        "int hold(int, int)", "int salty()", "int alone(int, int)", "int share(int, int)", "int treaty(int, int)",
        "int value(int, int)", "int image(int)", "int back(int)", "int count(int)", "long trace()",
    };

    public static void main(String[] args) {
        Class<?> face = TurnedRivers.class;
        Check.due("class", face.getModifiers(), Modifier.PUBLIC | Modifier.FINAL);
        Constructor<?>[] made = face.getDeclaredConstructors();
        Check.due("constructors", made.length, 1);
        Check.due("constructor's arguments", made[0].getParameterCount(), 0);
        Check.that("constructor is public", Modifier.isPublic(made[0].getModifiers()));
        methods(face);
        constants(face);
        for (Class<?> inside : face.getDeclaredClasses()) {
            int m = inside.getModifiers();
            Check.that(inside + " is static, and not public", Modifier.isStatic(m) && !Modifier.isPublic(m));
        }
        Check.end("FaceTest");
    }

    private static void methods(Class<?> face) {
        TreeSet<String> want = new TreeSet<>(Arrays.asList(FACE));
        TreeSet<String> names = new TreeSet<>();
        for (String s : FACE) {
            names.add(s.substring(s.indexOf(' ') + 1, s.indexOf('(')));
        }
        TreeSet<String> got = new TreeSet<>();
        for (Method m : face.getDeclaredMethods()) {
            if (Modifier.isPrivate(m.getModifiers())) {
                Check.that("private " + m.getName() + " bears no public name", !names.contains(m.getName()));
            } else {
                Check.due(m.getName() + "'s modifiers", m.getModifiers(), Modifier.PUBLIC);
                String types = Arrays.toString(m.getParameterTypes());
                got.add(m.getReturnType() + " " + m.getName() + "(" + types.substring(1, types.length() - 1) + ")");
            }
        }
        Check.that("methods are " + got, got.equals(want));
    }

    private static void constants(Class<?> face) {
        Check.due("BAD", TurnedRivers.BAD, -1);
        Check.due("STATE", TurnedRivers.STATE, -2);
        Check.due("FULL", TurnedRivers.FULL, -3);
        Check.due("NONE", TurnedRivers.NONE, -9);
        Check.due("NO", TurnedRivers.NO, -1000000);
        TreeSet<String> got = new TreeSet<>();
        for (Field f : face.getDeclaredFields()) {
            if (!Modifier.isPrivate(f.getModifiers())) {
                got.add(f.getType() + " " + f.getName());
                Check.due(f.getName(), f.getModifiers(), Modifier.PUBLIC | Modifier.STATIC | Modifier.FINAL);
            }
        }
        Check.that("constants are " + got,
                got.equals(new TreeSet<>(Arrays.asList("int BAD", "int STATE", "int FULL", "int NONE", "int NO"))));
    }
}
