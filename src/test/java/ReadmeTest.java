import java.io.IOException;
import java.lang.reflect.Method;
import java.lang.reflect.Modifier;
import java.nio.file.Files;
import java.nio.file.Path;
import java.util.Set;
import java.util.TreeSet;
import java.util.regex.Matcher;
import java.util.regex.Pattern;

/** README.md shows what is so: its code answers as the comments say, its text is a TOWER, its table names every call. */
public final class ReadmeTest extends Checks {
    private static final Pattern CALL = Pattern.compile("^(?:int |boolean )?(?:\\w+ = )?t\\.(\\w+)\\(([^)]*)\\); *(?:// ([^:]+)(?::.*)?)?$");

    public static void main(String[] args) throws IOException, ReflectiveOperationException {
        String page = Files.readString(Path.of("README.md"));
        codeAnswersAsSaid(block(page, "java"));
        textIsRead(block(page, "text"));
        tableHasEveryCall(page);
        end("ReadmeTest");
    }

    private static String block(String page, String language) {
        int from = page.indexOf("```" + language + "\n");
        return page.substring(page.indexOf('\n', from) + 1, page.indexOf("```", from + 3));
    }

    private static void codeAnswersAsSaid(String code) throws ReflectiveOperationException {
        promise("README.md's code");
        RootTower tower = new RootTower();
        int answers = 0;
        for (String line : code.split("\n")) {
            Matcher m = CALL.matcher(line);
            if (m.find()) {
                String got = String.valueOf(call(tower, m.group(1), m.group(2).split(", *")));
                if (m.group(3) != null) {
                    same(line, got, m.group(3).strip());
                    answers++;
                }
            } else {
                is("a line that is no call: " + line, line.startsWith("//") || line.equals("RootTower t = new RootTower();"), true);
            }
        }
        is("calls with an answer", answers, 8);
    }

    private static Object call(RootTower tower, String name, String[] written) throws ReflectiveOperationException {
        for (Method m : RootTower.class.getMethods()) {
            if (m.getName().equals(name) && Modifier.isPublic(m.getModifiers()) && m.getDeclaringClass() == RootTower.class) {
                Object[] arguments = new Object[m.getParameterCount()];
                for (int i = 0; i < arguments.length; i++) {
                    arguments[i] = Integer.decode(written[i]);
                }
                return m.invoke(tower, arguments);
            }
        }
        throw new NoSuchMethodException(name);
    }

    /** What is told of a line stands far behind its last sign. */
    private static void textIsRead(String shown) {
        promise("README.md's text");
        String text = shown.replaceAll("(?m); {3,}.*$", ";");
        RootTower tower = new RootTower();
        is("tower", Texts.read(tower, text), 0);
        row("count", tower::count, 4, 2, 0, 2, 30, 3, 2);
    }

    private static void tableHasEveryCall(String page) {
        promise("README.md's table");
        Set<String> due = new TreeSet<>();
        for (Method m : RootTower.class.getDeclaredMethods()) {
            if (Modifier.isPublic(m.getModifiers())) {
                due.add(m.getName());
            }
        }
        Set<String> got = new TreeSet<>();
        String table = page.substring(page.indexOf("|---|---|"), page.indexOf("\n\n", page.indexOf("|---|---|")));
        Matcher m = Pattern.compile("`(\\w+)`").matcher(table);
        while (m.find()) {
            is(m.group(1) + " stands there once", got.add(m.group(1)), true);
        }
        same("the calls", got.toString(), due.toString());
    }
}
