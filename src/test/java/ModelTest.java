import java.lang.reflect.Method;
import java.util.List;
import java.util.Random;

/** Random runs (from fixed seeds) of every call, on a RootTower and on the PlainModel: each answer must be the same. */
public final class ModelTest {
    private static final List<Method> FACE = Twin.face();

    public static void main(String[] args) throws ReflectiveOperationException {
        int runs = args.length > 0 ? Integer.parseInt(args[0]) : 4000;
        int from = args.length > 1 ? Integer.parseInt(args[1]) : 0;
        for (int i = from; i < from + runs && Twin.wrong() < 20; i++) {
            run(i);
            readTexts(i);
        }
        Twin.end("ModelTest");
    }

    private static void run(int seed) throws ReflectiveOperationException {
        Random random = new Random(seed);
        Twin twin = new Twin("seed " + seed);
        int texts = 1 + random.nextInt(3);
        for (int t = 0; t < texts; t++) {
            String text = Texts.make(random);
            if (random.nextInt(3) == 0) {
                text = Texts.spoil(text, random);
            }
            if (twin.taped() > 0) {
                twin.call("tower", twin.taped());
            }
            twin.read(cut(text));
            int many = random.nextInt(120);
            int actsOf = random.nextInt(8) == 0 ? 9 : 3;
            for (int i = 0; i < many; i++) {
                Method m = random.nextInt(10) < actsOf
                    ? Twin.named(ACTS[random.nextInt(ACTS.length)])
                    : FACE.get(random.nextInt(FACE.size()));
                if (!m.getName().equals("tower") || random.nextInt(60) == 0) {
                    twin.call(m, arguments(m, random));
                }
            }
        }
    }

    private static String cut(String text) {
        return text.length() > 700 ? text.substring(0, 700) : text;
    }

    /** Texts alone, most of them spoilt: the FAULT and its place. */
    private static void readTexts(int seed) throws ReflectiveOperationException {
        Random random = new Random(~seed);
        Twin twin = new Twin("texts of seed " + seed);
        for (int t = 0; t < 10; t++) {
            twin.read(cut(Texts.spoil(random.nextInt(3) == 0 ? "note " + Texts.expr(random, 0) + ";" : Texts.make(random), random)));
            twin.call("root", 0, 4);
        }
    }

    private static final String[] ACTS = {"days", "days", "hang", "hang", "hang", "hang", "take", "hollow", "hollow", "alter", "alter",
        "undo", "undo", "eat", "hear", "hear"};

    static Object[] arguments(Method m, Random random) {
        Class<?>[] types = m.getParameterTypes();
        Object[] all = new Object[types.length];
        for (int i = 0; i < types.length; i++) {
            all[i] = types[i] == boolean.class ? (Object) random.nextBoolean() : (Object) number(m.getName(), i, random);
        }
        return all;
    }

    private static int number(String name, int i, Random random) {
        int odd = random.nextInt(60);
        if (odd == 0) {
            return random.nextInt();
        }
        if (odd == 1) {
            return new int[] {Integer.MIN_VALUE, Integer.MAX_VALUE, -1, -2, 10, 16, 31, 32, 61, 1000}[random.nextInt(10)];
        }
        String key = name + i;
        switch (key) {
            case "hang1": case "hook0": return random.nextInt(7);
            case "hollow1": return random.nextInt(2) == 0 ? 1 : random.nextInt(12);
            case "days0": return random.nextInt(4) == 0 ? random.nextInt(32) : random.nextInt(4);
            case "then1": case "rings0": case "towers1": return random.nextInt(3) == 0 ? random.nextInt(63) - 1 : random.nextInt(9);
            case "hear0": return random.nextInt(3) == 0 ? random.nextInt(32) : random.nextInt(8);
            case "hear1": case "needed1": case "grown1": case "often0": return random.nextInt(17);
            case "alter1": return new int[] {0, 1, 2, 4, 5, 8, 9, 10, 16, 17, 18, 20, 21, 3, 32, 6}[random.nextInt(16)];
            case "alter0": case "change0": return random.nextInt(random.nextInt(3) == 0 ? 13 : 4);
            case "row0": case "at0": return random.nextInt(4) == 0 ? random.nextInt(1002) - 1 : random.nextInt(30);
            case "at1": case "order0": return random.nextInt(7);
            case "tune0": return random.nextInt(9);
            case "fit0": return random.nextInt(9) - 1;
            case "count0": return random.nextInt(18);
            case "root1": return random.nextInt(9);
            case "eaten0": case "next0": case "game2": case "towers2": case "scale0": case "mouth0": return random.nextInt(12) == 0 ? 3 : random.nextInt(3);
            case "towers0": case "feed0": case "feed1": case "feed2": case "feed3": case "feed4": return random.nextInt();
            case "tower0": return random.nextInt(30) - 2;
            default: return random.nextInt(random.nextInt(5) == 0 ? 11 : 5);
        }
    }
}
