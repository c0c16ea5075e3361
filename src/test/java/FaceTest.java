import java.lang.reflect.Constructor;
import java.lang.reflect.Field;
import java.lang.reflect.Method;
import java.lang.reflect.Modifier;
import java.util.Set;
import java.util.TreeSet;

/** The public face is the document's, and nothing else is to be seen. */
final class FaceTest {
    private static final String[] METHODS = {
        "link 5", "set 2", "cost 3", "told 2", "router 2", "taken 2", "tick 0", "ticks 1", "advert 4", "message 2",
        "within 4", "route 3", "packet 3", "truly 2", "cuts 2", "settled 1", "broken 3", "drawn 2", "chance 4",
        "tells 3", "film 2", "image 0", "back 0", "count 1", "sheet 3", "cell 3", "copy 5",
    };

    private FaceTest() {
    }

    static void run() {
        Check.part("face");
        Class<?> face = LinkRouter.class;
        Check.holds("the class is public and final",
            Modifier.isPublic(face.getModifiers()) && Modifier.isFinal(face.getModifiers()));
        methods(face);
        fields(face);
        for (Constructor<?> made : face.getDeclaredConstructors()) {
            Check.holds("the constructor is public and without parameters",
                Modifier.isPublic(made.getModifiers()) && made.getParameterCount() == 0);
        }
        for (Class<?> inner : face.getDeclaredClasses()) {
            Check.holds(inner + " is static and not public",
                Modifier.isStatic(inner.getModifiers()) && !Modifier.isPublic(inner.getModifiers()));
        }
    }

    private static void methods(Class<?> face) {
        Set<String> due = new TreeSet<>(Set.of(METHODS));
        Set<String> names = new TreeSet<>();
        for (String one : METHODS) {
            names.add(one.substring(0, one.indexOf(' ')));
        }
        Set<String> found = new TreeSet<>();
        for (Method method : face.getDeclaredMethods()) {
            boolean isPublic = Modifier.isPublic(method.getModifiers());
            if (isPublic) {
                found.add(method.getName() + " " + method.getParameterCount());
                Check.holds(method + " answers an int", method.getReturnType() == int.class);
                for (Class<?> type : method.getParameterTypes()) {
                    Check.holds(method + " takes ints", type == int.class);
                }
            } else {
                Check.holds(method + " is private", Modifier.isPrivate(method.getModifiers()));
                Check.holds(method + " bears a name of its own", !names.contains(method.getName()));
            }
        }
        Check.holds("public methods are " + found, found.equals(due));
    }

    private static void fields(Class<?> face) {
        Set<String> found = new TreeSet<>();
        for (Field field : face.getDeclaredFields()) {
            int is = field.getModifiers();
            if (Modifier.isPublic(is)) {
                found.add(field.getName());
                Check.holds(field + " is a constant", Modifier.isStatic(is) && Modifier.isFinal(is));
            } else {
                Check.holds(field + " is private", Modifier.isPrivate(is));
            }
        }
        Check.holds("public fields are " + found, found.equals(Set.of("NONE", "BAD", "STATE", "FULL")));
        Check.due("NONE", LinkRouter.NONE, -1);
        Check.due("BAD", LinkRouter.BAD, -2);
        Check.due("STATE", LinkRouter.STATE, -3);
        Check.due("FULL", LinkRouter.FULL, -4);
    }
}
