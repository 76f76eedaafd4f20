import java.lang.reflect.Constructor;
import java.lang.reflect.Field;
import java.lang.reflect.Method;
import java.lang.reflect.Modifier;
import java.util.ArrayList;
import java.util.Collections;
import java.util.HashSet;
import java.util.List;
import java.util.Set;

/** The face of the class: the constants, the constructor and the methods of the document, and no other. */
final class FaceTest {
    private static final String[] METHODS = {
        "int row(int,int,int)", "int set(int,int,int)", "int copy(int,int,int,int,int)", "int drop(int)",
        "int feed(long,int)", "int town()", "int say()", "int words(int,int,int)", "int fault()",
        "int corner(int,int)", "int mark(int,int)", "int word(int)", "int walk(int,int,int,int)",
        "int parts(int,int)", "int apart(int,int)", "int shortest(int,int,int,int)", "int soonest(int,int)",
        "int laid(int,int,int)", "int ends()", "int lost(int)", "int meet(int,int,int)", "int gloves(int,int,int)",
        "int image(int)", "int restore(int)", "int kind(int)", "int as(int,int)", "int ask(int,int)",
        "int trace(int)", "int count(int)", "int status()"
    };

    public static void main(String[] args) {
        Class<?> type = SidelessTown.class;
        Check.holds("public and final", Modifier.isPublic(type.getModifiers()) && Modifier.isFinal(type.getModifiers()));
        List<String> open = new ArrayList<>();
        Set<String> publicNames = new HashSet<>();
        for (Method m : type.getDeclaredMethods()) {
            if (!Modifier.isPrivate(m.getModifiers())) {
                open.add(told(m));
                publicNames.add(m.getName());
                Check.holds(m + " is public and of the object",
                    Modifier.isPublic(m.getModifiers()) && !Modifier.isStatic(m.getModifiers()));
            }
        }
        for (Method m : type.getDeclaredMethods()) {
            Check.holds(m + " bears no public name",
                Modifier.isPublic(m.getModifiers()) || !publicNames.contains(m.getName()));
        }
        List<String> want = new ArrayList<>(List.of(METHODS));
        Collections.sort(want);
        Collections.sort(open);
        Check.holds("the methods are the document's: " + open, open.equals(want));
        for (Constructor<?> c : type.getDeclaredConstructors()) {
            Check.holds("one public constructor", Modifier.isPublic(c.getModifiers()) && c.getParameterCount() == 0);
        }
        for (Field f : type.getDeclaredFields()) {
            boolean constant = List.of("NONE", "BAD", "STATE", "FULL").contains(f.getName());
            Check.holds(f + " is shown if it is the document's", constant == !Modifier.isPrivate(f.getModifiers()));
            Check.holds(f + " is final if static", !Modifier.isStatic(f.getModifiers()) || Modifier.isFinal(f.getModifiers()));
        }
        for (Class<?> inner : type.getDeclaredClasses()) {
            Check.holds(inner + " is static and not open", Modifier.isStatic(inner.getModifiers())
                && !Modifier.isPublic(inner.getModifiers()) && !Modifier.isProtected(inner.getModifiers()));
            for (Method m : inner.getDeclaredMethods()) {
                Check.holds(m + " bears no public name", !publicNames.contains(m.getName()));
            }
        }
        Check.due("NONE", SidelessTown.NONE, -1000000);
        Check.due("BAD", SidelessTown.BAD, -1000001);
        Check.due("STATE", SidelessTown.STATE, -1000002);
        Check.due("FULL", SidelessTown.FULL, -1000003);
        Check.end();
    }

    private static String told(Method m) {
        StringBuilder s = new StringBuilder(m.getReturnType() + " " + m.getName() + "(");
        for (Class<?> p : m.getParameterTypes()) {
            s.append(s.charAt(s.length() - 1) == '(' ? "" : ",").append(p);
        }
        return s.append(")").toString();
    }
}
