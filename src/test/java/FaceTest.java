import java.lang.reflect.Constructor;
import java.lang.reflect.Field;
import java.lang.reflect.Method;
import java.lang.reflect.Modifier;
import java.util.Arrays;
import java.util.Set;
import java.util.TreeSet;

/** The public face: the document's members and no other that can be seen from outside. */
public final class FaceTest {
    private static final String[] METHODS = {
        "int extra(int, int)", "int order(int, int, int, int, int)", "int cancel(int, int, int)",
        "int replace(int, int, int, int, int)", "boolean phase(int)", "int save()", "int crash()", "int market(int)",
        "int shown(int, int)", "int best(int)", "int about(int, int)", "int session(int, int)",
        "int report(int, int, int)", "int feed()", "int take(int)", "int refresh()", "int seen(int, int)",
        "int next()"};

    public static void main(String[] args) throws ReflectiveOperationException {
        constantsAreAsDue();
        methodsAreAsDue();
        onlyOneConstructor();
        nothingElseIsSeen();
        classesInsideAreStatic();
        Check.end("FaceTest");
    }

    private static void constantsAreAsDue() throws ReflectiveOperationException {
        String[] names = {"REFUSED", "GAP", "DUPLICATE", "REJECTED"};
        for (int i = 0; i < names.length; i++) {
            Field field = PhaseBook.class.getField(names[i]);
            Check.due(names[i], field.getInt(null), -1 - i);
            Check.due(names[i] + " is final", Modifier.isFinal(field.getModifiers()), true);
        }
        Check.due("public constants", PhaseBook.class.getFields().length, names.length);
    }

    private static void methodsAreAsDue() {
        Set<String> there = new TreeSet<>();
        for (Method method : PhaseBook.class.getDeclaredMethods()) {
            if (Modifier.isPublic(method.getModifiers())) {
                there.add(method.getReturnType() + " " + method.getName()
                    + Arrays.toString(method.getParameterTypes()).replace('[', '(').replace(']', ')'));
            }
        }
        Set<String> due = new TreeSet<>(Arrays.asList(METHODS));
        Check.due("public methods " + there, there.equals(due), true);
        for (Method method : PhaseBook.class.getDeclaredMethods()) {
            boolean named = due.stream().anyMatch(d -> d.contains(" " + method.getName() + "("));
            Check.due(method + " is public", Modifier.isPublic(method.getModifiers()), named);
        }
    }

    private static void onlyOneConstructor() {
        Constructor<?>[] constructors = PhaseBook.class.getDeclaredConstructors();
        Check.due("constructors", constructors.length, 1);
        Check.due("it is public", Modifier.isPublic(constructors[0].getModifiers()), true);
        Check.due("it takes two ints", Arrays.equals(constructors[0].getParameterTypes(),
            new Class<?>[] {int.class, int.class}), true);
        Check.due("the class is final", Modifier.isFinal(PhaseBook.class.getModifiers()), true);
    }

    private static void nothingElseIsSeen() {
        for (Method method : PhaseBook.class.getDeclaredMethods()) {
            int m = method.getModifiers();
            Check.due(method + " is public or private", Modifier.isPublic(m) || Modifier.isPrivate(m), true);
        }
        for (Field field : PhaseBook.class.getDeclaredFields()) {
            int m = field.getModifiers();
            Check.due(field + " is public or private", Modifier.isPublic(m) || Modifier.isPrivate(m), true);
            Check.due(field + " is final", Modifier.isFinal(m), true);
        }
    }

    private static void classesInsideAreStatic() {
        Class<?>[] inside = PhaseBook.class.getDeclaredClasses();
        Check.due("at most twelve classes", inside.length < 12, true);
        for (Class<?> c : inside) {
            Check.due(c + " is static", Modifier.isStatic(c.getModifiers()), true);
            Check.due(c + " is not public", Modifier.isPublic(c.getModifiers()), false);
            long fields = Arrays.stream(c.getDeclaredFields()).filter(f -> !Modifier.isStatic(f.getModifiers()))
                .count();
            Check.due(c + " has few fields", fields <= 20, true);
        }
    }
}
