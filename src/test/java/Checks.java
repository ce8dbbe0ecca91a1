import java.io.IOException;
import java.nio.file.Files;
import java.nio.file.Path;
import java.util.NoSuchElementException;

/** What the tests of answers share: checks are counted, and a wrong answer is printed with what it was a test of. */
abstract class Checks {
    private static int checks = 0;
    private static int wrong = 0;
    private static String about = "";
    private static String document = "";

    interface Call {
        void run();
    }

    interface Answer {
        int of(int argument);
    }

    static void promise(String name) {
        about = name;
    }

    /** What is checked next is a sentence of the document: its words must stand there. */
    static void quote(String words) {
        about = "\"" + words + "\"";
        checks++;
        if (!document().contains(words)) {
            fail("is not in the document");
        }
    }

    private static String document() {
        if (document.isEmpty()) {
            try {
                document = Files.readString(Path.of("../shared/DOC.md"));
            } catch (IOException e) {
                throw new IllegalStateException(e);
            }
        }
        return document;
    }

    static void fail(String what) {
        wrong++;
        System.out.println(about + ": " + what);
    }

    static void is(String what, long got, long want) {
        checks++;
        if (got != want) {
            fail(what + " answered " + got + ", due is " + want);
        }
    }

    static void is(String what, boolean got, boolean want) {
        is(what, got ? 1 : 0, want ? 1 : 0);
    }

    static void same(String what, String got, String want) {
        checks++;
        if (!got.equals(want)) {
            fail(what + " answered " + got + ", due is " + want);
        }
    }

    /** The answers to 0, 1 .. */
    static void row(String what, Answer answer, int... due) {
        for (int i = 0; i < due.length; i++) {
            is(what + " " + i, answer.of(i), due[i]);
        }
    }

    static void throwsIt(String what, Class<?> due, Call call) {
        checks++;
        Class<?> got = null;
        try {
            call.run();
        } catch (RuntimeException e) {
            got = e.getClass();
        }
        if (got != due) {
            fail(what + " threw " + got + ", due is " + due);
        }
    }

    static void none(String what, Call call) {
        throwsIt(what, NoSuchElementException.class, call);
    }

    static void bad(String what, Call call) {
        throwsIt(what, IllegalArgumentException.class, call);
    }

    private static final int[] FAR_OFF = {Integer.MIN_VALUE, -1000000, 1000000, Integer.MAX_VALUE};

    /** These numbers, and far ones on both sides, all throw NoSuchElementException. */
    static void noneOf(String what, Answer answer, int... numbers) {
        for (int number : numbers) {
            none(what + " of " + number, () -> answer.of(number));
        }
        for (int number : FAR_OFF) {
            none(what + " of " + number, () -> answer.of(number));
        }
    }

    /** These numbers, and far ones on both sides, all throw IllegalArgumentException. */
    static void badOf(String what, Answer answer, int... numbers) {
        for (int number : numbers) {
            bad(what + " of " + number, () -> answer.of(number));
        }
        for (int number : FAR_OFF) {
            bad(what + " of " + number, () -> answer.of(number));
        }
    }

    static void faulty(String text, int code, int place) {
        RootTower t = new RootTower();
        String shown = text.replace("\n", "\\n");
        is("tower of " + shown, Texts.read(t, text), code);
        is("fault of " + shown, t.fault(), place);
        is("STATUS 0 of " + shown, t.count(14), code == 0 ? 0 : 1);
    }

    static void fine(String text) {
        faulty(text, 0, RootTower.NONE);
    }

    /** The FAULT is at the TOKEN behind the mark ^. */
    static void fault(int code, String marked) {
        int place = marked.indexOf('^');
        faulty(marked.substring(0, place) + marked.substring(place + 1), code, place);
    }

    /** The NOTE that a rule gives for a ROOT, told behind it by its own line. */
    static int noteBy(String rule, String root) {
        return Texts.tower("note " + rule + ";" + root).root(0, 4);
    }

    static void end(String test) {
        System.out.println(test + ": " + checks + " checks, " + wrong + " wrong");
        if (wrong != 0) {
            System.exit(1);
        }
    }
}
