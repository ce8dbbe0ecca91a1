import java.util.ArrayList;
import java.util.List;
import java.util.NoSuchElementException;

/**
 * Calls that are refused, and calls that only ask, leave all as it was: one of two like objects gets the call,
 * then both are asked all, undone to the first ACT, and brought back to the image. Only what the call itself counts is unlike.
 */
public final class RefusalsTest extends Checks {
    private static final int MOST_CALLS = 512;

    interface On {
        Object of(RootTower tower);
    }

    /** Three roots hang, one is in the garden, one is eaten; two acts behind the image, one ahead of it. */
    private static RootTower lived() {
        RootTower t = Texts.tower("turnip 10 2 0;turnip 14 3 1;swede 20 4 2;beet 9 0;mangold 9 0 4;weather 2 6;lasts 6;tune 11 10 7;method 1 2;");
        t.days(1);
        t.hear(1, 11, false);
        t.image();
        t.eat(4);
        t.alter(1, 4);
        t.hear(0, 7, true);
        t.feed(0x20202020, 0x20202020, 0x20202020, 0x20202020, 0x20202020);
        return t;
    }

    public static void main(String[] args) {
        tape();
        acts();
        reads();
        courses();
        methods();
        fits();
        hearing();
        games();
        questionsOfNow();
        nothingToUndo();
        fullTape();
        lastDay();
        end("RefusalsTest");
    }

    private static String answer(On call, RootTower t) {
        try {
            return String.valueOf(call.of(t));
        } catch (NoSuchElementException e) {
            return "none";
        } catch (IllegalArgumentException e) {
            return "bad";
        }
    }

    private static int ask(RootTower t, boolean all, List<String> into) {
        int calls = 0;
        for (int what = 0; what < 17; what++, calls++) {
            into.add("count " + what + " " + t.count(what));
        }
        int roots = t.count(0);
        for (int root = 0; root < roots; root++) {
            for (int what = 1; what <= 5; what += what == 3 ? 2 : 1, calls++) {
                into.add("root " + root + " " + what + " " + t.root(root, what));
            }
        }
        for (int i = 0; i < t.count(6); i++, calls += 2) {
            into.add("change " + i + " " + t.change(i));
        }
        into.add("fault " + t.fault());
        into.add("eaten " + t.eaten(0) + " " + t.eaten(1) + " " + t.eaten(2));
        if (all) {
            into.add("last " + t.last() + " soft " + t.soft() + " length " + t.length() + " true " + t.isTrue() + " longer " + t.longer());
            into.add("fit " + t.fit(-1) + " keepers " + t.keepers() + " earliest " + t.earliest() + " next " + t.next(0) + " " + t.next(1));
            into.add("towers " + t.towers(3, 20, 0) + " scale " + t.scale(1) + " mouth " + t.mouth(1) + " spare " + t.spare() + " often " + t.often(11));
        }
        return calls + 22;
    }

    /** All that can be told of it, now, while it is undone, and as its image. */
    private static List<String> story(RootTower t) {
        List<String> all = new ArrayList<>();
        int calls = 30 + ask(t, true, all);
        int left = t.undo();
        for (int i = 0; i < 40 && left >= 0 && calls < MOST_CALLS - 150; i++) {
            all.add("left " + left);
            calls += 1 + ask(t, false, all);
            left = t.undo();
        }
        all.add("restore " + t.restore());
        calls += 2 + ask(t, false, all);
        is("calls of one object", calls <= MOST_CALLS, true);
        return all;
    }

    /** The call answers that, and nothing is another than of the other object but what begins so. */
    private static void leaves(String what, String due, RootTower asked, RootTower other, On call, String... unlike) {
        same(what, answer(call, asked), due);
        List<String> got = story(asked);
        List<String> want = story(other);
        is("answers behind " + what, got.size(), want.size());
        for (int i = 0; i < want.size() && i < got.size(); i++) {
            if (!beginsWithOne(want.get(i), unlike)) {
                same("behind " + what, got.get(i), want.get(i));
            }
        }
    }

    private static boolean beginsWithOne(String answer, String... beginnings) {
        for (String beginning : beginnings) {
            if (answer.startsWith(beginning)) {
                return true;
            }
        }
        return false;
    }

    /** An ACT or what is HEARD: its STATUS alone is one more. */
    private static void refused(String what, String due, int status, On call) {
        RootTower asked = lived();
        int before = asked.count(status);
        leaves(what, due, asked, lived(), call, "count " + status + " ");
        is("STATUS behind " + what, asked.count(status), before + 1);
    }

    private static void asks(String what, String due, On call) {
        leaves(what, due, lived(), lived(), call);
    }

    private static void tape() {
        quote("n below 0 (nothing changes)");
        for (int n : new int[] {-1, 21, 700, 701, Integer.MAX_VALUE, Integer.MIN_VALUE}) {
            asks("tower " + n, "bad", t -> t.tower(n));
        }
        quote("0, or the FAULT (all stays)");
        String[] texts = {"sun", "turnip 5 0 0;lasts 100;", "note sun;", "beet 9 0 3;beet 9 0 3;", "tune 1;tune 2;",
            "weather 1 2;lasts 3;method 5;grows 1;note (", "turnip 5 0;".repeat(11)};
        String[] codes = {"1", "2", "3", "4", "5", "1", "2"};
        for (int i = 0; i < texts.length; i++) {
            String text = texts[i];
            leaves("tower of " + text, codes[i], lived(), lived(), t -> readBehindBlanks(t, text), "count 13 ", "count 14 ", "fault ");
        }
    }

    /** The tape has twenty blanks already. */
    private static int readBehindBlanks(RootTower t, String text) {
        Texts.feed(t, text);
        return t.tower(20 + text.length());
    }

    private static void acts() {
        quote("NONE (STATUS 1): not 1 to 30, it would be above 999.");
        for (int many : new int[] {0, -1, 31, Integer.MAX_VALUE, Integer.MIN_VALUE}) {
            refused("days " + many, "-1", 15, t -> t.days(many));
        }
        quote("-2 (STATUS 1): EATEN, one hangs there (itself, too).");
        refused("hang one EATEN", "-2", 15, t -> t.hang(4, 5));
        refused("hang where one hangs", "-2", 15, t -> t.hang(3, 0));
        refused("hang itself", "-2", 15, t -> t.hang(0, 0));
        asks("hang no ROOT", "none", t -> t.hang(5, 5));
        asks("hang on no HOOK", "none", t -> t.hang(3, 6));
        quote("NONE (STATUS 1): it doesn't hang.");
        refused("take from THE GARDEN", "-1", 15, t -> t.take(3));
        refused("take one EATEN", "-1", 15, t -> t.take(4));
        asks("take no ROOT", "none", t -> t.take(-1));
        quote("NONE (STATUS 1): EATEN, not 1 to as much as it may be.");
        refused("hollow by 0", "-1", 15, t -> t.hollow(3, 0));
        refused("hollow by -1", "-1", 15, t -> t.hollow(3, -1));
        refused("hollow by too much", "-1", 15, t -> t.hollow(0, 8));
        refused("hollow one EATEN", "-1", 15, t -> t.hollow(4, 1));
        asks("hollow no ROOT", "none", t -> t.hollow(5, 1));
        quote("False (STATUS 1): already.");
        refused("eat again", "false", 15, t -> t.eat(4));
        asks("eat no ROOT", "none", t -> t.eat(5));
        quote("NONE (STATUS 1): no such number.");
        for (int number : new int[] {-1, 3, 31, 32, 64, Integer.MIN_VALUE}) {
            refused("alter to " + number, "-1", 15, t -> t.alter(1, number));
        }
        asks("alter no CHANGE", "none", t -> t.alter(2, 1));
        asks("alter no CHANGE", "none", t -> t.alter(-1, 3));
    }

    private static void reads() {
        promise("4 fault to 9 change");
        asks("fault", "-1", RootTower::fault);
        asks("count", "none", t -> t.count(17));
        asks("count", "none", t -> t.count(-1));
        asks("root", "none", t -> t.root(5, 0));
        asks("root", "none", t -> t.root(0, 8));
        asks("root", "11", t -> t.root(0, 4));
        asks("hook", "none", t -> t.hook(6));
        asks("hook", "2", t -> t.hook(2));
        asks("tune", "none", t -> t.tune(3));
        asks("tune", "7", t -> t.tune(2));
        asks("change", "none", t -> t.change(2));
        asks("change", "4", t -> t.change(1));
    }

    private static void courses() {
        promise("17 then to 22 order");
        asks("then", "bad", t -> t.then(0, 61));
        asks("then", "none", t -> t.then(5, 61));
        asks("then", "0", t -> t.then(3, 60));
        asks("goes", "none", t -> t.goes(5));
        asks("goes", "1", t -> t.goes(0));
        asks("rings", "bad", t -> t.rings(61));
        asks("rings", "false", t -> t.rings(60));
        asks("last", "0", RootTower::last);
        asks("soft", "0", RootTower::soft);
        asks("order", "none", t -> t.order(3));
        asks("order", "2", t -> t.order(2));
    }

    private static void methods() {
        promise("23 row to 27 longer, 41 leads, 42 meets");
        asks("row", "bad", t -> t.row(1000));
        asks("row", "12", t -> t.row(999));
        asks("at", "bad", t -> t.at(-1, 9));
        asks("at", "none", t -> t.at(0, 3));
        asks("at", "0", t -> t.at(999, 0));
        asks("length", "3", RootTower::length);
        asks("isTrue", "false", RootTower::isTrue);
        asks("longer", "102", RootTower::longer);
        asks("leads", "none", t -> t.leads(5));
        asks("leads", "2", t -> t.leads(1));
        asks("meets", "none", t -> t.meets(0, 5));
        asks("meets", "3", t -> t.meets(0, 1));
    }

    private static void fits() {
        promise("28 fit to 30 earliest, 37 needed, 38 grown");
        asks("fit", "none", t -> t.fit(3));
        asks("fit", "none", t -> t.fit(-2));
        asks("fit", "0", t -> t.fit(-1));
        asks("fit", "2", t -> t.fit(2));
        asks("keepers", "7", RootTower::keepers);
        asks("earliest", "0", RootTower::earliest);
        asks("needed", "none", t -> t.needed(0, 16));
        asks("needed", "1", t -> t.needed(0, 12));
        asks("grown", "none", t -> t.grown(5, 0));
        asks("grown", "0", t -> t.grown(3, 10));
    }

    private static void hearing() {
        quote("NONE (STATUS 2): there are 8, not 0 to 30, no such NOTE.");
        for (int days : new int[] {-1, 31, Integer.MAX_VALUE}) {
            refused("hear " + days, "-1", 16, t -> t.hear(days, 0, true));
        }
        for (int note : new int[] {-1, 16, Integer.MIN_VALUE}) {
            refused("hear NOTE " + note, "-1", 16, t -> t.hear(0, note, true));
        }
        RootTower[] full = {lived(), lived()};
        for (RootTower t : full) {
            for (int i = 0; i < 6; i++) {
                t.hear(i, i, false);
            }
        }
        leaves("a ninth", "-1", full[0], full[1], t -> t.hear(0, 15, true), "count 16 ");
        promise("33 eaten, 34 next");
        asks("eaten", "none", t -> t.eaten(3));
        asks("eaten", "none", t -> t.eaten(-1));
        asks("eaten", "39", t -> t.eaten(0));
        asks("next", "none", t -> t.next(2));
        asks("next", "0", t -> t.next(0));
    }

    private static void games() {
        promise("35 game, 36 towers");
        asks("game", "none", t -> t.game(0, 5, 0));
        asks("game", "none", t -> t.game(0, 0, 2));
        asks("game", "bad", t -> t.game(0, 0, 0));
        asks("game", "bad", t -> t.game(0, 4, 0));
        asks("game", "1", t -> t.game(0, 1, 0));
        asks("towers", "none", t -> t.towers(1, 61, 3));
        asks("towers", "bad", t -> t.towers(1, 61, 2));
        asks("towers", "0", t -> t.towers(1, 60, 0));
    }

    private static void questionsOfNow() {
        promise("39 scale, 40 mouth, 43 without to 45 spare");
        asks("scale", "none", t -> t.scale(2));
        asks("scale", "10", t -> t.scale(1));
        asks("mouth", "none", t -> t.mouth(2));
        asks("mouth", "2", t -> t.mouth(0));
        asks("without", "none", t -> t.without(5));
        asks("without", "-1", t -> t.without(0));
        asks("often", "none", t -> t.often(16));
        asks("often", "0", t -> t.often(11));
        asks("spare", "0", RootTower::spare);
    }

    private static void nothingToUndo() {
        quote("NONE: there is none.");
        String text = "beet 9 0 0;method 1;";
        leaves("undo", "-1", Texts.tower(text), Texts.tower(text), RootTower::undo);
        quote("False: there is none.");
        RootTower[] two = {Texts.tower(text), Texts.tower(text)};
        for (RootTower t : two) {
            t.days(3);
            t.hear(1, 2, true);
        }
        leaves("restore", "false", two[0], two[1], RootTower::restore);
        leaves("row without a METHOD", "bad", Texts.tower("beet 9 0;"), Texts.tower("beet 9 0;"), t -> t.row(0));
        leaves("at without a METHOD", "bad", Texts.tower("beet 9 0;"), Texts.tower("beet 9 0;"), t -> t.at(0, 0));
    }

    private static void fullTape() {
        quote("NONE, and none come, if it would have more than 700");
        RootTower[] two = {Texts.tower("beet 9 0 0;"), Texts.tower("beet 9 0 0;")};
        for (RootTower t : two) {
            for (int i = 0; i < 35; i++) {
                t.feed(0x20202020, 0x20202020, 0x20202020, 0x20202020, 0x20202020);
            }
        }
        leaves("feed", "-1", two[0], two[1], t -> t.feed(0x73756e73, 0x73756e73, 0x73756e73, 0x73756e73, 0x73756e73));
        is("all blanks still", two[0].tower(700), 0);
    }

    private static void lastDay() {
        quote("it would be above 999");
        RootTower[] two = {Texts.tower("beet 9 0;weather 1 9 3;"), Texts.tower("beet 9 0;weather 1 9 3;")};
        for (RootTower t : two) {
            for (int i = 0; i < 33; i++) {
                t.days(30);
            }
            t.image();
        }
        leaves("10 DAYS to 1000", "-1", two[0], two[1], t -> t.days(10), "count 15 ");
    }
}
