import java.lang.reflect.Constructor;
import java.lang.reflect.Field;
import java.lang.reflect.Method;
import java.lang.reflect.Modifier;
import java.util.Set;
import java.util.TreeSet;

/** The public face is the document's, no more and no less, and the members keep to LANGUAGE.md. */
public final class FaceTest {
    private static final Due due = new Due();

    public static void main(String[] args) {
        Class<?> face = FeedbackBreaker.class;
        due.is("class is public and final", face.getModifiers(), Modifier.PUBLIC | Modifier.FINAL);
        due.is("nested classes", face.getDeclaredClasses().length, 0);
        due.is("interfaces", face.getInterfaces().length, 0);
        due.is("extends Object alone", face.getSuperclass() == Object.class ? 1 : 0, 1);
        constructors(face);
        methods(face);
        fields(face);
        due.exit();
    }

    private static void constructors(Class<?> face) {
        Constructor<?>[] all = face.getDeclaredConstructors();
        due.is("constructors", all.length, 1);
        String text = all[0].toString();
        due.is(text, text.equals("public FeedbackBreaker(int)") ? 1 : 0, 1);
    }

    private static void methods(Class<?> face) {
        Set<String> want = new TreeSet<>(Set.of(
                "vertices()", "link(int,int,int)", "ring(int,int,int)", "keep(int,int)", "edges()",
                "breaks(int)", "least()", "first()", "breakers()", "inBreakers(int)",
                "leastWith(int)", "leastWithout(int)", "girth()", "excess()"));
        Set<String> names = new TreeSet<>();
        for (String one : want) names.add(one.substring(0, one.indexOf('(')));
        for (Method method : face.getDeclaredMethods()) {
            String text = method.toString();
            if (Modifier.isPrivate(method.getModifiers())) {
                due.is(text + " bears a public name", names.contains(method.getName()) ? 1 : 0, 0);
                due.is(text + " has over seven parameters", method.getParameterCount() > 7 ? 1 : 0, 0);
            } else {
                String start = "public int FeedbackBreaker.";
                boolean known = text.startsWith(start) && want.remove(text.substring(start.length()));
                due.is(text + " is in the document", known ? 1 : 0, 1);
            }
        }
        due.is("methods missing " + want, want.size(), 0);
    }

    private static void fields(Class<?> face) {
        for (Field field : face.getDeclaredFields()) {
            int modifiers = field.getModifiers();
            Class<?> type = field.getType();
            Class<?> item = type.isArray() ? type.getComponentType() : type;
            boolean number = item.isPrimitive() && item != float.class && item != double.class;
            boolean constant = Modifier.isFinal(modifiers) && (type == int.class || type == long.class);
            due.is(field + " is private", Modifier.isPrivate(modifiers) ? 1 : 0, 1);
            due.is(field + " is of whole numbers", number ? 1 : 0, 1);
            due.is(field + " is a constant if static", !Modifier.isStatic(modifiers) || constant ? 1 : 0, 1);
        }
    }
}
