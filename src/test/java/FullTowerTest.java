import java.util.ArrayList;
import java.util.List;
import java.util.Random;

/** TOWERS with all that a TEXT can tell: behind some acts every question with every argument, on a RootTower and on the PlainModel. */
public final class FullTowerTest {
    private static final int TOWERS = 16;
    /** So few that an object's texts, acts and questions stay within its 512 calls. */
    private static final int QUESTIONS_OF_ONE = 400;
    private static final String[] ACTS = {"days", "hang", "take", "hollow", "alter", "hear", "undo", "eat"};

    private record Question(String method, Object[] args) {
    }

    public static void main(String[] args) throws ReflectiveOperationException {
        List<Question> questions = questions();
        for (int seed = 0; seed < TOWERS && Twin.wrong() < 20; seed++) {
            for (int from = 0; from < questions.size(); from += QUESTIONS_OF_ONE) {
                Twin twin = lived(seed);
                for (Question q : questions.subList(from, Math.min(from + QUESTIONS_OF_ONE, questions.size()))) {
                    twin.call(q.method(), q.args());
                }
            }
        }
        Twin.end("FullTowerTest");
    }

    /** The first ones as they are told, the others behind ever more acts. */
    private static Twin lived(int seed) throws ReflectiveOperationException {
        Random random = new Random(seed);
        Twin twin = new Twin("tower " + seed);
        twin.read(Texts.full(random));
        if (seed % 4 == 1) {
            twin.call("days", 20 + random.nextInt(10));
        }
        for (int i = 0; i < seed; i++) {
            String act = ACTS[random.nextInt(ACTS.length - (i % 5 == 0 ? 0 : 2))];
            twin.call(act, ModelTest.arguments(Twin.named(act), random));
        }
        return twin;
    }

    private static int[] span(int from, int to) {
        int[] all = new int[to - from + 1];
        for (int i = 0; i < all.length; i++) {
            all[i] = from + i;
        }
        return all;
    }

    private static void ask(List<Question> into, String method, int[]... choices) {
        List<Object[]> all = new ArrayList<>();
        all.add(new Object[0]);
        for (int[] choice : choices) {
            List<Object[]> longer = new ArrayList<>();
            for (Object[] args : all) {
                for (int one : choice) {
                    Object[] more = java.util.Arrays.copyOf(args, args.length + 1);
                    more[args.length] = one;
                    longer.add(more);
                }
            }
            all = longer;
        }
        for (Object[] args : all) {
            into.add(new Question(method, args));
        }
    }

    private static List<Question> questions() {
        List<Question> all = new ArrayList<>();
        int[] roots = span(-1, 10);
        int[] notes = span(-1, 16);
        int[] days = {-1, 0, 1, 2, 9, 10, 30, 31, 59, 60, 61};
        int[] changes = {-1, 0, 1, 2, 3, 11, 12, 13, 72, 998, 999, 1000};
        ask(all, "count", span(-1, 17));
        ask(all, "root", roots, span(-1, 8));
        ask(all, "hook", span(-1, 6));
        ask(all, "tune", span(-1, 8));
        ask(all, "change", span(-1, 12));
        ask(all, "then", roots, days);
        ask(all, "goes", roots);
        ask(all, "rings", span(-1, 61));
        for (String method : new String[] {"fault", "last", "soft", "length", "isTrue", "longer", "keepers", "earliest", "spare"}) {
            ask(all, method);
        }
        ask(all, "order", span(-1, 6));
        ask(all, "row", changes);
        ask(all, "at", changes, span(-1, 6));
        ask(all, "fit", span(-2, 8));
        ask(all, "eaten", span(-1, 3));
        ask(all, "next", span(-1, 2));
        ask(all, "game", roots, roots, span(-1, 2));
        ask(all, "towers", new int[] {0, 1, -1, Integer.MIN_VALUE, 99}, days, span(-1, 3));
        ask(all, "needed", roots, notes);
        ask(all, "grown", roots, notes);
        ask(all, "scale", span(-1, 2));
        ask(all, "mouth", span(-1, 2));
        ask(all, "leads", roots);
        ask(all, "meets", roots, roots);
        ask(all, "without", roots);
        ask(all, "often", notes);
        return all;
    }
}
