import java.lang.reflect.Constructor;
import java.lang.reflect.Field;
import java.lang.reflect.Method;
import java.lang.reflect.Modifier;
import java.util.Arrays;
import java.util.HashSet;
import java.util.Set;
import java.util.TreeSet;
import java.util.stream.Collectors;

/** The public face: just what the document has, and nothing more that others could see. */
public final class FaceTest {
    private static final String FACE = """
        int feed(int, int, int, int, int)
        int town(int)
        int fault()
        int where()
        int person(int, int)
        int dead(int, int)
        int house(int)
        int comesOut(int, int)
        int outIf(int, int, int)
        int hears(int, int)
        int off(int, int)
        int right(int)
        int medium(int)
        int silent(int)
        int rightFrom(int, int)
        int nightsOf(int, int)
        int round(int)
        int bestNight()
        int perfect()
        int together(int, int)
        int aimFor(int, int, int)
        int aims(int, int, int)
        int mirrorFor(int, int)
        int mirrorBest(int)
        int slipFor(int, int)
        int seat(int)
        int seatAt(int, int)
        int likes(int, int, int)
        int restless(int)
        int moveFor(int, int)
        int bring(int, int)
        int bringFrom(int)
        int steps(int, int)
        int ring(int, int)
        int ringAt(int, int, int)
        int fits()
        int fitAt(int)
        int could()
        int surely()
        int ask()
        int askLeaves()
        int judge()
        int chat(int, boolean, boolean, boolean)
        int rests(int)
        int rest(int)
        long odds(int, int, boolean)
        long most(int, int, boolean)
        long mean(int, int, boolean)
        int heardBy(int, int, int)
        int rights(int, int)
        int night()
        int move(int, int)
        boolean hang(int, int)
        boolean take(int)
        boolean teach(int, int)
        boolean undo()
        int image()
        boolean back(int)
        int led(int)
        int size(int)
        int trouble()
        """;

    private static final Check CHECK = new Check("FaceTest");

    public static void main(String[] args) throws NoSuchMethodException {
        Class<?> face = SeanceStreet.class;
        CHECK.due("public and final", face.getModifiers(), Modifier.PUBLIC | Modifier.FINAL);
        CHECK.due("NONE", SeanceStreet.NONE, -1);
        methods(face);
        for (Constructor<?> c : face.getDeclaredConstructors()) {
            CHECK.due("constructor " + c, c.getParameterCount() == 0 && Modifier.isPublic(c.getModifiers()), true);
        }
        CHECK.due("constructors", face.getDeclaredConstructors().length, 1);
        for (Field f : face.getDeclaredFields()) {
            boolean isNone = f.getName().equals("NONE");
            CHECK.due("field " + f, isNone || Modifier.isPrivate(f.getModifiers()), true);
            CHECK.due("static field " + f, !Modifier.isStatic(f.getModifiers()) || Modifier.isFinal(f.getModifiers()),
                true);
        }
        Method led = face.getMethod("led", int.class);
        CHECK.due("led throws", Arrays.equals(led.getExceptionTypes(),
            new Class<?>[] {java.util.NoSuchElementException.class}), true);
        CHECK.due("classes inside, some twelve in all", face.getDeclaredClasses().length < 12, true);
        CHECK.end();
    }

    private static void methods(Class<?> face) {
        Set<String> due = new TreeSet<>(Arrays.asList(FACE.strip().split("\n")));
        Set<String> seen = new TreeSet<>();
        Set<String> names = new HashSet<>();
        for (Method m : face.getDeclaredMethods()) {
            if (Modifier.isPublic(m.getModifiers())) {
                names.add(m.getName());
                seen.add(m.getReturnType() + " " + m.getName() + "(" + Arrays.stream(m.getParameterTypes())
                    .map(Class::toString).collect(Collectors.joining(", ")) + ")");
            }
        }
        CHECK.due("public methods " + seen, seen.equals(due), true);
        for (Method m : face.getDeclaredMethods()) {
            if (!Modifier.isPublic(m.getModifiers())) {
                CHECK.due("private " + m, Modifier.isPrivate(m.getModifiers()) && !names.contains(m.getName()), true);
            }
        }
        for (Class<?> inside : face.getDeclaredClasses()) {
            CHECK.due("static " + inside, Modifier.isStatic(inside.getModifiers()), true);
            for (Method m : inside.getDeclaredMethods()) {
                CHECK.due("name of " + m, names.contains(m.getName()), false);
            }
        }
    }
}
