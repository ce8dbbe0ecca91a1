import java.util.ArrayList;
import java.util.Collections;
import java.util.List;
import java.util.Random;
import java.util.function.Supplier;

/** TEXTS for the tests: made, spoilt, and as the numbers that feed() takes. */
final class Texts {
    private static final String[] KINDS = {"turnip", "swede", "mangold", "beet"};
    private static final String[] VALUES = {"size", "hollow", "kind", "soft", "weather", "day", "hung"};
    private static final int[] CHANGES = {0, 1, 2, 4, 5, 8, 9, 10, 16, 17, 18, 20, 21};

    private Texts() {
    }

    static List<Object> words(String text) {
        List<Object> words = new ArrayList<>();
        for (int i = 0; i < text.length() || words.size() % 5 != 0; i += 4) {
            int word = 0;
            for (int j = i; j < i + 4; j++) {
                word = word << 8 | (j < text.length() ? text.charAt(j) & 255 : 32);
            }
            words.add(word);
        }
        return words;
    }

    static int feed(RootTower tower, String text) {
        List<Object> words = words(text);
        int fed = tower.count(13);
        for (int i = 0; i < words.size(); i += 5) {
            fed = tower.feed((Integer) words.get(i), (Integer) words.get(i + 1), (Integer) words.get(i + 2),
                (Integer) words.get(i + 3), (Integer) words.get(i + 4));
        }
        return fed;
    }

    static RootTower tower(String text) {
        RootTower tower = new RootTower();
        int answer = read(tower, text);
        if (answer != 0) {
            throw new IllegalStateException("fault " + answer + " at " + tower.fault() + " of " + text);
        }
        return tower;
    }

    static int read(RootTower tower, String text) {
        feed(tower, text);
        return tower.tower(text.length());
    }

    private static String blank(Random random) {
        return random.nextInt(8) == 0 ? "\n" : random.nextInt(9) == 0 ? "  " : " ";
    }

    static String make(Random random) {
        List<String> lines = new ArrayList<>();
        List<Integer> notes = new ArrayList<>();
        int roots = random.nextInt(5) == 0 ? random.nextInt(11) : 2 + random.nextInt(6);
        boolean[] hooks = new boolean[6];
        int around = 6 + random.nextInt(25);
        for (int i = 0; i < roots; i++) {
            int size = random.nextInt(6) == 0 ? 1 + random.nextInt(60) : Math.max(1, around + random.nextInt(9) - 4);
            int hollow = random.nextInt(Math.min(size, random.nextInt(3) == 0 ? 21 : 4));
            String line = KINDS[random.nextInt(4)] + blank(random) + size + blank(random) + hollow;
            int hook = random.nextInt(6);
            if (random.nextInt(5) != 0 && !hooks[hook]) {
                hooks[hook] = true;
                line += blank(random) + hook;
            }
            notes.add(Math.max(0, 15 - (size - hollow) / 2));
            lines.add(line + ";");
        }
        if (random.nextInt(4) != 0) {
            lines.add("weather" + row(random, 1 + random.nextInt(random.nextInt(3) == 0 ? 10 : 3), 10) + ";");
        }
        if (random.nextInt(3) != 0) {
            lines.add("lasts " + (1 + random.nextInt(random.nextInt(2) == 0 ? 99 : 25)) + ";");
        }
        if (random.nextInt(6) != 0) {
            lines.add(tuneOf(notes, random) + ";");
        }
        if (random.nextInt(6) != 0) {
            StringBuilder line = new StringBuilder("method");
            int many = 1 + random.nextInt(random.nextInt(4) == 0 ? 12 : 4);
            int[] usual = random.nextBoolean() ? CHANGES : new int[] {1, 2, 4, 5, 10, 20, 21, 8};
            for (int i = 0; i < many; i++) {
                line.append(blank(random)).append(usual[random.nextInt(usual.length)]);
            }
            lines.add(line + ";");
        }
        if (random.nextInt(2) == 0) {
            lines.add("note " + (random.nextInt(3) == 0 ? expr(random, 0) : noteSum(random)) + ";");
        }
        if (random.nextInt(2) == 0) {
            lines.add("grows " + expr(random, 0) + ";");
        }
        Collections.shuffle(lines, random);
        return String.join(random.nextInt(2) == 0 ? "" : "\n", lines);
    }

    /** As much as a TEXT can tell: ten ROOTS of which six hang, and all else as often as it may be. */
    static String full(Random random) {
        List<Integer> hooks = new ArrayList<>(List.of(0, 1, 2, 3, 4, 5, 6, 7, 8, 9));
        Collections.shuffle(hooks, random);
        StringBuilder text = new StringBuilder();
        int around = 6 + random.nextInt(20);
        for (int hook : hooks) {
            int size = Math.max(1, around + random.nextInt(9) - 4);
            text.append(KINDS[random.nextInt(4)]).append(' ').append(size).append(' ').append(random.nextInt(Math.min(size, 5)));
            text.append(hook < 6 ? " " + hook + ";" : ";");
        }
        text.append("weather").append(row(random, 10, 10)).append(";lasts ").append(20 + random.nextInt(80));
        text.append(";tune").append(row(random, random.nextBoolean() ? 8 : 2, 16)).append(";method");
        for (int i = 0; i < 12; i++) {
            text.append(' ').append(CHANGES[random.nextInt(CHANGES.length)]);
        }
        text.append(random.nextInt(3) == 0 ? ";" : random.nextBoolean() ? ";note size;" : ";note " + noteSum(random) + ";");
        return text + (random.nextBoolean() ? "grows 0;" : "");
    }

    private static String tuneOf(List<Integer> notes, Random random) {
        StringBuilder line = new StringBuilder("tune");
        int many = 1 + random.nextInt(random.nextInt(3) == 0 ? 8 : 3);
        boolean wild = random.nextInt(4) == 0 || notes.isEmpty();
        for (int i = 0; i < many; i++) {
            int note = wild ? random.nextInt(16) : notes.get(random.nextInt(notes.size())) + (random.nextInt(6) == 0 ? 1 : 0);
            line.append(blank(random)).append(Math.min(15, note));
        }
        return line.toString();
    }

    /** Much like the NOTE without a rule, so that a TUNE is often there. */
    private static String noteSum(Random random) {
        String[] more = {"kind", "day/5", "(weather<5)", "hung", "soft/4", "(" + expr(random, 1) + ")/9", "hollow/7"};
        return "15-(size-hollow)/2" + (random.nextBoolean() ? "+" : " - ") + more[random.nextInt(more.length)];
    }

    private static String row(Random random, int many, int below) {
        StringBuilder row = new StringBuilder();
        for (int i = 0; i < many; i++) {
            row.append(blank(random)).append(random.nextInt(below));
        }
        return row.toString();
    }

    static String expr(Random random, int depth) {
        return several(random, " or ", random.nextInt(4) == 0 ? 3 : 1, () -> and(random, depth));
    }

    private static String and(Random random, int depth) {
        return several(random, " and ", random.nextInt(4) == 0 ? 3 : 1, () -> not(random, depth));
    }

    private static String not(Random random, int depth) {
        String nots = "not ".repeat(random.nextInt(5) == 0 ? random.nextInt(7) : 0);
        int test = random.nextInt(5);
        return nots + sum(random, depth) + (test > 1 ? "" : (test == 0 ? "<" : " = ") + sum(random, depth));
    }

    private static String sum(Random random, int depth) {
        return several(random, random.nextBoolean() ? "+" : " - ", random.nextInt(2) == 0 ? 3 : 1, () -> product(random, depth));
    }

    private static String product(Random random, int depth) {
        return several(random, random.nextBoolean() ? "*" : "/", random.nextInt(3) == 0 ? 3 : 1, () -> part(random, depth));
    }

    private static String several(Random random, String sign, int most, Supplier<String> one) {
        StringBuilder all = new StringBuilder(one.get());
        for (int i = random.nextInt(most); i > 0; i--) {
            all.append(sign).append(one.get());
        }
        return all.toString();
    }

    private static String part(Random random, int depth) {
        int which = random.nextInt(6);
        return which == 0 && depth < 5 ? "(" + expr(random, depth + 1) + ")"
            : which < 4 ? VALUES[random.nextInt(7)]
            : "" + random.nextInt(random.nextInt(8) == 0 ? 10000 : 20);
    }

    private static final String[] BITS = {";", "(", ")", "+", "-", "*", "/", "<", "=", "0", "7", "61", "12345", "00004", "or", "and", "not",
        "turnip", "beet 5 1;", "swede 9 2 1;", "; swede 9 2 3; turnip 4 3 3", "weather", "tune", "method", "note", "grows", "lasts", "size", "sun", "day", "A", "\t", "%",
        "\u00e9", "\u0000", "not not not not not not", "((((((", "((((((1", "))", "weather 4;", "lasts 30;", " ", "\n", "3", "15", "99", "32", "3 3 3 3 3 3 3 3 3 3 3",
        ";turnip 1 0;turnip 1 0;turnip 1 0;turnip 1 0;turnip 1 0;turnip 1 0;turnip 1 0;turnip 1 0;turnip 1 0;turnip 1 0;turnip 1 0", "1 2 4 5 8 9 10 1 2 4 5 8"};

    static String spoil(String text, Random random) {
        StringBuilder spoilt = new StringBuilder(text);
        int times = 1 + random.nextInt(2);
        for (int i = 0; i < times; i++) {
            int at = random.nextInt(spoilt.length() + 1);
            switch (random.nextInt(5)) {
                case 4:
                    spoilt.insert(Math.max(0, spoilt.lastIndexOf(";", at)), " " + BITS[random.nextInt(BITS.length)]);
                    break;
                case 0:
                    spoilt.delete(at, Math.min(spoilt.length(), at + 1 + random.nextInt(4)));
                    break;
                case 1:
                    spoilt.setLength(at);
                    break;
                case 2:
                    spoilt.insert(at, BITS[random.nextInt(BITS.length)]);
                    break;
                default:
                    spoilt.insert(at, " " + BITS[random.nextInt(BITS.length)] + " ");
                    break;
            }
        }
        return spoilt.toString();
    }
}
