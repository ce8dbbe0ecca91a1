import java.io.IOException;
import java.lang.reflect.Constructor;
import java.lang.reflect.Executable;
import java.lang.reflect.Field;
import java.lang.reflect.Method;
import java.lang.reflect.Modifier;
import java.nio.file.Files;
import java.nio.file.Path;
import java.util.ArrayList;
import java.util.Arrays;
import java.util.List;
import java.util.Set;
import java.util.TreeSet;
import java.util.regex.Matcher;
import java.util.regex.Pattern;

/** The face is the document's and no more; the source keeps to those rules of LANGUAGE.md that can be seen in its text. */
public final class FaceTest {
    private static int wrong = 0;

    public static void main(String[] args) throws IOException {
        faceIsTheDocuments();
        membersArePrivate();
        sourceKeepsToTheLanguage();
        System.out.println("FaceTest: " + wrong + " wrong");
        if (wrong != 0) {
            System.exit(1);
        }
    }

    private static void check(String what, boolean fine) {
        if (!fine) {
            wrong++;
            System.out.println("FaceTest: " + what);
        }
    }

    private static String list(Class<?>[] types) {
        List<String> names = new ArrayList<>();
        for (Class<?> type : types) {
            names.add(type.getSimpleName());
        }
        return String.join(", ", names);
    }

    private static String thrown(Executable e) {
        return e.getExceptionTypes().length == 0 ? "" : " throws " + list(e.getExceptionTypes());
    }

    private static void faceIsTheDocuments() throws IOException {
        Set<String> due = new TreeSet<>();
        String doc = Files.readString(Path.of("../shared/DOC.md"));
        String block = doc.substring(doc.indexOf("```java"), doc.indexOf("```", doc.indexOf("```java") + 3));
        for (String line : block.split("\n")) {
            if (line.startsWith("    public ")) {
                due.add(line.strip().replaceAll("(int|boolean) \\w+([,)])", "$1$2"));
            }
        }
        Set<String> got = new TreeSet<>();
        for (Method m : RootTower.class.getDeclaredMethods()) {
            if (Modifier.isPublic(m.getModifiers())) {
                got.add(Modifier.toString(m.getModifiers()) + " " + m.getReturnType().getSimpleName() + " " + m.getName()
                    + "(" + list(m.getParameterTypes()) + ")" + thrown(m) + ";");
            }
        }
        for (Constructor<?> c : RootTower.class.getDeclaredConstructors()) {
            got.add("public RootTower(" + list(c.getParameterTypes()) + ")" + thrown(c) + ";");
        }
        for (Field f : RootTower.class.getFields()) {
            got.add("public static final int " + f.getName() + " = " + RootTower.NONE + ";");
        }
        check("the face is " + got + ", due is " + due, got.equals(due) && due.size() == 48);
        check("public and final", Modifier.toString(RootTower.class.getModifiers()).equals("public final"));
    }

    private static void membersArePrivate() {
        Set<String> face = new TreeSet<>();
        for (Method m : RootTower.class.getDeclaredMethods()) {
            if (Modifier.isPublic(m.getModifiers())) {
                face.add(m.getName());
            } else {
                check(m + " is not private", Modifier.isPrivate(m.getModifiers()));
            }
        }
        List<Class<?>> classes = new ArrayList<>(Arrays.asList(RootTower.class.getDeclaredClasses()));
        check("too many classes", classes.size() < 12);
        classes.add(RootTower.class);
        for (Class<?> c : classes) {
            check(c + " is not static", c == RootTower.class || Modifier.isStatic(c.getModifiers()) && Modifier.isPrivate(c.getModifiers()));
            checkMembers(c, face);
        }
    }

    private static void checkMembers(Class<?> c, Set<String> face) {
        int fields = 0;
        for (Field f : c.getDeclaredFields()) {
            boolean isStatic = Modifier.isStatic(f.getModifiers());
            fields += isStatic ? 0 : 1;
            check(f + " is not final", !isStatic || Modifier.isFinal(f.getModifiers()));
            check(f + " is not private", c != RootTower.class || Modifier.isPrivate(f.getModifiers()) || f.getName().equals("NONE"));
        }
        check(c + " has " + fields + " fields", fields <= 20);
        for (Method m : c.getDeclaredMethods()) {
            boolean ofFace = c == RootTower.class && Modifier.isPublic(m.getModifiers());
            check(m + " has a name of the face", ofFace || !face.contains(m.getName()));
            check(m + " has more than 7 parameters", m.getParameterCount() <= 7);
        }
    }

    private static void sourceKeepsToTheLanguage() throws IOException {
        String source = Files.readString(Path.of("src/main/java/RootTower.java"));
        String code = source.replaceAll("(?s)/\\*.*?\\*/", "").replaceAll("//[^\n]*", "").replaceAll("\"[^\"\n]*\"", "\"\"");
        for (String word : new String[] {"try", "catch", "finally", "synchronized", "assert", "double", "float", "Object", "record",
            "native", "Thread", "Random", "instanceof", "protected", "package"}) {
            check("the word " + word, !Pattern.compile("\\b" + word + "\\b").matcher(code).find());
        }
        for (String sign : new String[] {"->", "::", "Exact(", "static {", "while (true", "for (;;"}) {
            check("the sign " + sign, !code.contains(sign));
        }
        check("signs beyond 127", source.chars().allMatch(c -> c < 128));
        only(code, "import ([\\w.]+);", Set.of("java.util.NoSuchElementException"));
        only(code, "System\\.(\\w+)", Set.of("arraycopy"));
        only(code, "Math\\.(\\w+)", Set.of("max", "min", "abs"));
        only(code, "Integer\\.(\\w+)", Set.of("bitCount"));
        only(code, "throw new (\\w+)\\(", Set.of("IllegalArgumentException", "NoSuchElementException"));
        only(code, "new ([A-Za-z]+)[\\[(]", Set.of("Reader", "Plan", "State", "Acts", "Heard", "Course", "Ringing", "Fitting", "Guess",
            "Wilds", "Rule", "int", "byte", "IllegalArgumentException", "NoSuchElementException"));
        checkMethodLengths(code);
    }

    private static void only(String code, String pattern, Set<String> allowed) {
        Matcher m = Pattern.compile(pattern).matcher(code);
        while (m.find()) {
            check(m.group() + " is not of the language", allowed.contains(m.group(1)));
        }
    }

    private static void checkMethodLengths(String code) {
        String[] lines = code.split("\n");
        int began = -1;
        String end = "";
        for (int i = 0; i < lines.length; i++) {
            Matcher m = Pattern.compile("^( {4}| {8})\\S.*\\) ?(throws [\\w, ]+)?\\{$").matcher(lines[i]);
            if (began < 0 && m.find()) {
                began = i;
                end = m.group(1) + "}";
            } else if (began >= 0 && lines[i].equals(end)) {
                check("a long method at " + lines[began], i - began < 60);
                began = -1;
            }
        }
    }
}
