import java.lang.reflect.Member;
import java.lang.reflect.Method;
import java.lang.reflect.Modifier;
import java.util.Arrays;
import java.util.Set;
import java.util.TreeSet;
import java.util.stream.Collectors;

/** The public face: just what the document tells, and nothing else that could be seen. */
public final class FaceTest {
    private static final String FACE = "ahead(int,int)int ball(int,int)int boys(int,int,int)int "
            + "carry(int,int)int cell(int,int)int count(int)int county(int)int days(int)int fault()int "
            + "feed(int,int,int,int,int)int fire(int,int)int first()int forget()void game(int,int,int)int "
            + "guard(int,boolean)boolean image()void later(int,int)int look(int)int milder(int)int "
            + "mood(int,int,int)int off(int)int person(int,int)int pram(int,int,int)int put(int)int "
            + "putBy(int)int restore()boolean see(int,int,boolean)int soothe(int,int)int stays(int,int)int "
            + "then(int,int,int)int toGuard(int,int)int tread(int)int undo()int when(int,int)int "
            + "years(int,int,int)int";

    private static String told(Method m) {
        String types = Arrays.stream(m.getParameterTypes()).map(Class::getName).collect(Collectors.joining(","));
        return m.getName() + "(" + types + ")" + m.getReturnType().getName();
    }

    private static boolean isHidden(Member m) {
        return Modifier.isPrivate(m.getModifiers()) || m.isSynthetic();
    }

    private static void methods() {
        Set<String> found = new TreeSet<>();
        for (Method m : TemperDowns.class.getDeclaredMethods()) {
            if (!isHidden(m)) {
                Due.is(m.getName() + " is public", Modifier.isPublic(m.getModifiers()), true);
                found.add(told(m));
            }
        }
        Set<String> due = new TreeSet<>(Arrays.asList(FACE.split(" ")));
        Due.is("methods " + found, found.equals(due), true);
    }

    private static void constants() {
        long seen = Arrays.stream(TemperDowns.class.getDeclaredFields()).filter(f -> !isHidden(f)).count();
        Due.is("NONE alone is seen", seen, 1);
        Due.is("NONE", TemperDowns.NONE, -1);
        Due.is("constructors", TemperDowns.class.getConstructors().length, 1);
        Due.is("final", Modifier.isFinal(TemperDowns.class.getModifiers()), true);
    }

    public static void main(String[] args) {
        Due.runAll(FaceTest.class);
    }
}
