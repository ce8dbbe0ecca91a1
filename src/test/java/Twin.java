import java.lang.reflect.InvocationTargetException;
import java.lang.reflect.Method;
import java.lang.reflect.Modifier;
import java.util.ArrayList;
import java.util.Arrays;
import java.util.Comparator;
import java.util.List;

/** A RootTower and a PlainModel that get the same calls: each answer must be the same. */
final class Twin {
    private static final List<Method> FACE = face();
    private static int calls = 0;
    private static int wrong = 0;

    private final RootTower tower = new RootTower();
    private final PlainModel model = new PlainModel();
    private final String name;
    private final List<String> log = new ArrayList<>();

    Twin(String name) {
        this.name = name;
    }

    static List<Method> face() {
        List<Method> all = new ArrayList<>();
        for (Method m : RootTower.class.getDeclaredMethods()) {
            if (Modifier.isPublic(m.getModifiers())) {
                all.add(m);
            }
        }
        all.sort(Comparator.comparing(Method::getName));
        return all;
    }

    static Method named(String name) {
        for (Method m : FACE) {
            if (m.getName().equals(name)) {
                return m;
            }
        }
        throw new IllegalStateException(name);
    }

    static int wrong() {
        return wrong;
    }

    static void end(String test) {
        System.out.println(test + ": " + calls + " calls, " + wrong + " wrong");
        if (wrong != 0) {
            System.exit(1);
        }
    }

    int taped() {
        return tower.count(13);
    }

    void call(String method, Object... args) throws ReflectiveOperationException {
        call(named(method), args);
    }

    void call(Method m, Object... args) throws ReflectiveOperationException {
        calls++;
        Method same = PlainModel.class.getDeclaredMethod(m.getName(), m.getParameterTypes());
        String got = answer(m, tower, args);
        String due = answer(same, model, args);
        log.add(m.getName() + Arrays.toString(args) + " = " + due);
        if (!got.equals(due)) {
            wrong++;
            System.out.println(name + ": " + m.getName() + Arrays.toString(args) + " answered " + got + ", due is " + due);
            if (wrong == 1) {
                System.out.println(String.join("\n", log));
            }
        }
    }

    /** All of it is fed and read, and the FAULT is asked. */
    void read(String text) throws ReflectiveOperationException {
        log.add("text " + text.replace("\n", "\\n"));
        List<Object> words = Texts.words(text);
        for (int i = 0; i < words.size(); i += 5) {
            call("feed", words.subList(i, i + 5).toArray());
        }
        call("tower", text.length());
        call("fault");
    }

    private static String answer(Method m, Object on, Object[] args) throws ReflectiveOperationException {
        try {
            return String.valueOf(m.invoke(on, args));
        } catch (InvocationTargetException e) {
            return "throws." + e.getCause().getClass().getSimpleName();
        }
    }
}
