import java.lang.reflect.Constructor;
import java.lang.reflect.Field;
import java.lang.reflect.Method;
import java.lang.reflect.Modifier;
import java.util.Set;
import java.util.TreeSet;

/** The public face: just the members of the document, and nothing else that can be seen. */
public final class FaceTest {
    private static final Set<String> METHODS = Set.of(
        "int alloc(int,int)",
        "int copy(int,int)",
        "int load(int,int,int)",
        "int store(int,int,int)",
        "int once(int,boolean)",
        "int region(int,int,int)",
        "int access(int,int,int,boolean)",
        "int pointsTo(int)",
        "int holds(int,int)",
        "boolean race(int,int)",
        "int races()",
        "int held(int)",
        "int danger()");

    public static void main(String[] args) {
        Due.is("BAD_NUMBER", RaceFinder.BAD_NUMBER, -1);
        Due.is("FULL", RaceFinder.FULL, -2);
        Due.is("the class is public and final",
            RaceFinder.class.getModifiers() & ~Modifier.SYNCHRONIZED, Modifier.PUBLIC | Modifier.FINAL);
        methodsAreThoseOfTheDocument();
        constantsAreThoseOfTheDocument();
        thereIsOnePublicConstructor();
        Due.is("nested classes", RaceFinder.class.getDeclaredClasses().length, 0);
        Due.end();
    }

    private static void methodsAreThoseOfTheDocument() {
        Set<String> seen = new TreeSet<>();
        Set<String> hidden = new TreeSet<>();
        Set<String> names = new TreeSet<>();
        for (Method m : RaceFinder.class.getDeclaredMethods()) {
            if (Modifier.isPrivate(m.getModifiers())) {
                hidden.add(m.getName());
            } else {
                seen.add(signature(m));
                names.add(m.getName());
                Due.is(m.getName() + " is public and not static", m.getModifiers(), Modifier.PUBLIC);
            }
        }
        Due.is("methods " + seen + " are those of the document", seen.equals(METHODS), true);
        hidden.retainAll(names);
        Due.is("private methods with a public name: " + hidden, hidden.size(), 0);
    }

    private static String signature(Method m) {
        StringBuilder text = new StringBuilder(m.getReturnType() + " " + m.getName() + "(");
        String gap = "";
        for (Class<?> type : m.getParameterTypes()) {
            text.append(gap).append(type);
            gap = ",";
        }
        return text.append(")").toString();
    }

    private static void constantsAreThoseOfTheDocument() {
        Set<String> seen = new TreeSet<>();
        for (Field f : RaceFinder.class.getDeclaredFields()) {
            if (!Modifier.isPrivate(f.getModifiers())) {
                seen.add(f.getName());
                Due.is(f.getName() + " is public static final", f.getModifiers(),
                    Modifier.PUBLIC | Modifier.STATIC | Modifier.FINAL);
            }
        }
        Due.is("constants " + seen, seen.equals(Set.of("BAD_NUMBER", "FULL")), true);
    }

    private static void thereIsOnePublicConstructor() {
        Constructor<?>[] all = RaceFinder.class.getDeclaredConstructors();
        Due.is("constructors", all.length, 1);
        Due.is("parameters of the constructor", all[0].getParameterCount(), 0);
        Due.is("the constructor is public", all[0].getModifiers(), Modifier.PUBLIC);
    }
}
