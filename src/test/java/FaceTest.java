import java.lang.reflect.Constructor;
import java.lang.reflect.Field;
import java.lang.reflect.Method;
import java.lang.reflect.Modifier;
import java.util.Set;
import java.util.TreeSet;

/** The class shows the document's face and nothing else (rule 1 of LANGUAGE.md). */
public final class FaceTest {
    private static final String[] METHODS = {
        "int alloc(int) IllegalArgumentException IllegalStateException UnsupportedOperationException",
        "void number(int int int) IndexOutOfBoundsException",
        "void refer(int int int boolean) IndexOutOfBoundsException IllegalArgumentException",
        "int get(int int) IndexOutOfBoundsException",
        "int kind(int int) IndexOutOfBoundsException",
        "int push(int) IndexOutOfBoundsException IllegalStateException",
        "int pop()",
        "int root(int)",
        "void rites(int boolean) IndexOutOfBoundsException",
        "int take() IllegalStateException",
        "int queued(int)",
        "int collect()",
        "int word(int) IndexOutOfBoundsException",
        "int about(int int) IndexOutOfBoundsException IllegalArgumentException",
        "int far(int) IndexOutOfBoundsException",
        "int way(int int) IndexOutOfBoundsException",
        "int count(int) IllegalArgumentException",
        "void clear()",
    };

    private static int wrong = 0;

    public static void main(String[] args) {
        same("modifiers", Modifier.toString(SlidingHeap.class.getModifiers()), "public final");
        same("methods", shownMethods(), new TreeSet<>(Set.of(METHODS)));
        same("fields", shownFields(), new TreeSet<>(Set.of("public static final int NONE")));
        same("constructors", shownConstructors(), new TreeSet<>(Set.of("public SlidingHeap()")));
        same("NONE", SlidingHeap.NONE, -1);
        same("private methods with a public one's name", sharedNames(), new TreeSet<String>());
        same("static state", changeableStatics(), new TreeSet<String>());
        System.out.println(wrong == 0 ? "the face is as due" : wrong + " parts of the face are not as due");
        if (wrong != 0) {
            System.exit(1);
        }
    }

    private static Set<String> shownMethods() {
        Set<String> shown = new TreeSet<>();
        for (Method method : SlidingHeap.class.getDeclaredMethods()) {
            if (!Modifier.isPrivate(method.getModifiers())) {
                String access = method.getModifiers() == Modifier.PUBLIC ? "" : "not plainly public: ";
                String head = access + method.getReturnType() + " " + method.getName();
                shown.add(head + "(" + names(method.getParameterTypes()) + ")" + thrown(method));
            }
        }
        return shown;
    }

    private static String thrown(Method method) {
        String names = names(method.getExceptionTypes());
        return names.isEmpty() ? "" : " " + names;
    }

    private static String names(Class<?>[] types) {
        StringBuilder text = new StringBuilder();
        for (Class<?> type : types) {
            text.append(text.length() == 0 ? "" : " ").append(type.getSimpleName());
        }
        return text.toString();
    }

    private static Set<String> shownFields() {
        Set<String> shown = new TreeSet<>();
        for (Field field : SlidingHeap.class.getDeclaredFields()) {
            if (!Modifier.isPrivate(field.getModifiers())) {
                shown.add(Modifier.toString(field.getModifiers()) + " " + field.getType() + " " + field.getName());
            }
        }
        return shown;
    }

    private static Set<String> shownConstructors() {
        Set<String> shown = new TreeSet<>();
        for (Constructor<?> constructor : SlidingHeap.class.getDeclaredConstructors()) {
            shown.add(constructor.toString());
        }
        return shown;
    }

    private static Set<String> sharedNames() {
        Set<String> shared = new TreeSet<>();
        for (Method hidden : SlidingHeap.class.getDeclaredMethods()) {
            for (Method shown : SlidingHeap.class.getMethods()) {
                if (Modifier.isPrivate(hidden.getModifiers()) && hidden.getName().equals(shown.getName())) {
                    shared.add(hidden.getName());
                }
            }
        }
        return shared;
    }

    private static Set<String> changeableStatics() {
        Set<String> changeable = new TreeSet<>();
        for (Field field : SlidingHeap.class.getDeclaredFields()) {
            if (Modifier.isStatic(field.getModifiers()) && !Modifier.isFinal(field.getModifiers())) {
                changeable.add(field.getName());
            }
        }
        return changeable;
    }

    private static void same(String what, Object got, Object want) {
        if (!got.equals(want)) {
            wrong++;
            System.out.println(what + ": " + got + ", due is " + want);
        }
    }
}
