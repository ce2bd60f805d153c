import java.lang.reflect.Constructor;
import java.lang.reflect.Field;
import java.lang.reflect.Method;
import java.lang.reflect.Modifier;
import java.util.Arrays;
import java.util.HashSet;
import java.util.NoSuchElementException;
import java.util.Set;

/** The public face is the document's, no more and no less. */
public final class FaceTest {
    private static final String[] METHODS = {
        "feed 5", "tables 1", "polynomial 2", "group 1", "member 3", "times 2", "about 2", "of 2", "factor 4", "term 3",
        "moved 3", "average 2", "plus 4", "product 3", "series 1", "base 3", "isSystem 3", "primary 2", "secondaries 0",
        "secondary 2", "numerator 1", "rewrite 1", "rewritten 4", "relation 6", "count 1"};

    private FaceTest() {
    }

    public static void main(String[] args) {
        Set<String> seen = new HashSet<>();
        Set<String> names = new HashSet<>();
        for (String m : METHODS) {
            names.add(m.substring(0, m.indexOf(' ')));
        }
        for (Method m : InvariantWorks.class.getDeclaredMethods()) {
            if (Modifier.isPrivate(m.getModifiers())) {
                Checks.holds(m.getName() + " bears no public name", !names.contains(m.getName()));
            } else {
                Checks.holds(m + " is public", Modifier.isPublic(m.getModifiers()));
                Checks.holds(m + " answers an int", m.getReturnType() == int.class);
                seen.add(m.getName() + " " + m.getParameterCount());
                Class<?>[] thrown = m.getExceptionTypes();
                boolean asTold = m.getName().equals("term")
                        ? thrown.length == 1 && thrown[0] == NoSuchElementException.class : thrown.length == 0;
                Checks.holds(m + " throws what the document says", asTold);
                for (Class<?> type : m.getParameterTypes()) {
                    Checks.holds(m + " takes ints alone", type == int.class);
                }
            }
        }
        Checks.holds("the methods " + seen, seen.equals(new HashSet<>(Arrays.asList(METHODS))));
        Constructor<?>[] constructors = InvariantWorks.class.getDeclaredConstructors();
        Checks.due("constructors", constructors.length, 1);
        Checks.holds("the constructor is public", Modifier.isPublic(constructors[0].getModifiers()));
        for (Field f : InvariantWorks.class.getDeclaredFields()) {
            boolean isNone = f.getName().equals("NONE");
            Checks.holds(f + " is private, NONE public", Modifier.isPrivate(f.getModifiers()) != isNone);
        }
        Checks.holds("the class is final", Modifier.isFinal(InvariantWorks.class.getModifiers()));
        for (Class<?> c : InvariantWorks.class.getDeclaredClasses()) {
            Checks.holds(c + " is private and static", Modifier.isPrivate(c.getModifiers()) && Modifier.isStatic(c.getModifiers()));
            for (Method m : c.getDeclaredMethods()) {
                Checks.holds(m + " bears no public name", !names.contains(m.getName()));
            }
        }
        Checks.end();
    }
}
