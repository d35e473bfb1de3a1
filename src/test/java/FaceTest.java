import java.lang.reflect.Constructor;
import java.lang.reflect.Field;
import java.lang.reflect.Method;
import java.lang.reflect.Modifier;
import java.util.Arrays;
import java.util.NoSuchElementException;
import java.util.TreeSet;

/** The face: the members that the document tells, and no other that is not private. */
public final class FaceTest {
    private static final String DUE = "act(int,int) alone(int,int,int) approve(int) binds(int,int) bound(int,int)"
        + " can(int,int,int,int) days(int) die(int) does(int,int,int,int,int) end(int) enter(int,boolean)"
        + " entry(int,int) fault() feed(int,int,int,int,int) fewest(int,int,int) finish(int) giveUp(int)"
        + " hang(int) letter(int,int) narrow(int,int,int) notice(int,int) now(int) over(int) power(int,int)"
        + " scope(int,int,int) text() upTo(int,int,int) used(int)";

    public static void main(String[] args) {
        TreeSet<String> found = new TreeSet<>();
        TreeSet<String> names = new TreeSet<>();
        for (Method m : AuthorityBook.class.getDeclaredMethods()) {
            if (!Modifier.isPrivate(m.getModifiers()) && !m.isSynthetic()) {
                Probe.yes(m.getName() + " is public", Modifier.isPublic(m.getModifiers()));
                Class<?> due = m.getName().equals("end") ? boolean.class : int.class;
                Probe.yes(m.getName() + " answers a " + due, m.getReturnType() == due);
                boolean throwing = m.getName().equals("power") || m.getName().equals("act");
                Class<?>[] thrown = throwing ? new Class<?>[] {NoSuchElementException.class} : new Class<?>[0];
                Probe.yes(m.getName() + " throws what is told", Arrays.equals(m.getExceptionTypes(), thrown));
                StringBuilder row = new StringBuilder();
                for (Class<?> c : m.getParameterTypes()) {
                    row.append(row.length() == 0 ? "" : ",").append(c.getName());
                }
                found.add(m.getName() + "(" + row + ")");
                names.add(m.getName());
            }
        }
        Probe.yes("the methods are " + found, found.equals(new TreeSet<>(Arrays.asList(DUE.split(" ")))));
        for (Method m : AuthorityBook.class.getDeclaredMethods()) {
            Probe.yes("no private " + m.getName(), !Modifier.isPrivate(m.getModifiers()) || !names.contains(m.getName()));
        }
        for (Field f : AuthorityBook.class.getDeclaredFields()) {
            Probe.yes(f.getName() + " is private", Modifier.isPrivate(f.getModifiers()) || f.getName().equals("NONE"));
            Probe.yes(f.getName() + " static, so final",
                !Modifier.isStatic(f.getModifiers()) || Modifier.isFinal(f.getModifiers()));
        }
        Edge.of("The public face", "public AuthorityBook();");
        Constructor<?>[] made = AuthorityBook.class.getDeclaredConstructors();
        Edge.yes("one public constructor without arguments",
            made.length == 1 && made[0].getParameterCount() == 0 && Modifier.isPublic(made[0].getModifiers()));
        Edge.of("The public face", "public final class AuthorityBook {");
        Edge.yes("the class is final", Modifier.isFinal(AuthorityBook.class.getModifiers()));
        Edge.of("The public face", "public static final int NONE = -1;");
        Edge.same("NONE", AuthorityBook.NONE, -1);
        Probe.finish("FaceTest");
    }
}
