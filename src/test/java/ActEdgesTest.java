/** The bounds of rules, days, acts and what they bring about, sentence by sentence of the document. */
public final class ActEdgesTest extends Checks {
    private static final String SIX = "beet 9 0 0;beet 9 0 1;beet 9 0 2;beet 9 0 3;beet 9 0 4;beet 9 0 5;";

    public static void main(String[] args) {
        newObject();
        tape();
        towers();
        whatRulesGive();
        valuesOfRules();
        notes();
        weatherOfADay();
        sounding();
        growing();
        softening();
        counts();
        rootsAndHooks();
        tuneAndChange();
        days();
        hanging();
        taking();
        hollowing();
        eating();
        altering();
        actsKept();
        undoing();
        images();
        imageOfAllActs();
        answersBehindAChange();
        allTen();
        lastCall();
        end("ActEdgesTest");
    }

    private static void newObject() {
        quote("`RootTower()`: No ROOTS.");
        RootTower t = new RootTower();
        row("count", t::count, 0, 0, 0, 4, 20, 0, 0, 0, 0, 0, 0, 0, 0, 0, 0, 0, 0);
        is("fault", t.fault(), -1);
        row("hook", t::hook, -1, -1, -1, -1, -1, -1);
        noneOf("root", root -> t.root(root, 0), -1, 0, 1);
        noneOf("tune", t::tune, -1, 0);
        noneOf("change", t::change, -1, 0);
        noneOf("hang", root -> t.hang(root, 0), 0);
        noneOf("take", t::take, 0);
        noneOf("hollow", root -> t.hollow(root, 1), 0);
        noneOf("eat", root -> t.eat(root) ? 1 : 0, 0);
        noneOf("alter", i -> t.alter(i, 1), 0);
        is("undo", t.undo(), -1);
        is("restore", t.restore(), false);
        is("days", t.days(3), 3);
        is("undo", t.undo(), 0);
        is("DAY", t.count(2), 0);
        is("the tape", t.count(13), 0);
        is("an empty TEXT", t.tower(0), 0);
        bad("no byte is there", () -> t.tower(1));
        quote("`NONE = -1`");
        is("NONE", RootTower.NONE, -1);
    }

    private static void tape() {
        quote("of each number the highest first: how many it has");
        RootTower t = new RootTower();
        is("feed", t.feed(0x6c617374, 0x73203132, 0x3b626565, 0x74203920, 0x303b2020), 20);
        is("tower", t.tower(18), 0);
        is("lasts 12", t.count(4), 12);
        is("beet 9", t.root(0, 1), 9);
        is("anew behind a tower()", t.feed(-1, -1, -1, -1, -1), 20);
        is("two", t.feed(0, 0, 0, 0, 0), 40);
        is("what is behind the first n bytes is gone, too", t.tower(0), 0);
        is("empty", t.count(13), 0);
        quote("NONE, and none come, if it would have more than 700");
        for (int i = 1; i <= 35; i++) {
            is("feed", t.feed(0x0a0a0a0a, 0x20202020, 0x0a0a0a0a, 0x20202020, 0x0a0a0a0a), 20 * i);
        }
        for (int i = 0; i < 3; i++) {
            is("more than 700", t.feed(-1, -1, -1, -1, -1), -1);
            is("none come", t.count(13), 700);
        }
        row("no STATUS", status -> t.count(14 + status), 0, 0, 0);
        is("all blanks still", t.tower(700), 0);
        is("there is room again", t.feed(0x20202020, 0x20202020, 0x20202020, 0x20202020, 0x20202020), 20);
    }

    private static void towers() {
        RootTower t = Texts.tower("beet 9 0 1;tune 11;");
        quote("IllegalArgumentException: the tape has not so many, n below 0 (nothing changes)");
        Texts.feed(t, "turnip 5 0 6;");
        badOf("tower", t::tower, -1, 21, 22, 700, 701);
        is("the tape stays", t.count(13), 20);
        is("no FAULT", t.fault(), -1);
        is("no STATUS", t.count(14), 0);
        is("ROOTS", t.count(0), 1);
        is("all that it has", t.tower(20), 2);
        quote("The place of the latest tower()'s FAULT; NONE without.");
        is("place", t.fault(), 11);
        bad("one that throws is no FAULT", () -> t.tower(1));
        is("place", t.fault(), 11);
        is("another FAULT", Texts.read(t, "sun"), 1);
        is("its place", t.fault(), 0);
        quote("(it is empty then)");
        is("also behind a FAULT", t.count(13), 0);
        quote("0, or the FAULT (all stays)");
        is("ROOTS", t.count(0), 1);
        is("HOOK", t.hook(1), 0);
        is("TUNE", t.tune(0), 11);
        is("STATUS 0", t.count(14), 2);
        is("0", Texts.read(t, "swede 5 0;"), 0);
        quote("NONE without");
        is("NONE", t.fault(), -1);
        quote("ACTS, what is HEARD, the image are gone (STATUS stays)");
        t.days(1);
        t.days(0);
        t.hear(0, 0, true);
        t.hear(0, 16, true);
        t.image();
        is("tower", t.tower(0), 0);
        is("ACTS", t.count(11), 0);
        is("undo", t.undo(), -1);
        is("HEARD", t.count(12), 0);
        is("eaten without ROOTS or HEARD", t.eaten(2), 1);
        is("the image", t.restore(), false);
        row("STATUS", status -> t.count(14 + status), 2, 1, 1);
    }

    private static void whatRulesGive() {
        String beet = "beet 9 4;";
        quote("From the left; ints that wrap");
        is("-", noteBy("9 - 5 - 3", beet), 1);
        is("/", noteBy("90 / 9 / 2", beet), 5);
        is("* and /", noteBy("7 / 2 * 2", beet), 6);
        is("/ and *", noteBy("9 * 3 / 5 * 2", beet), 10);
        is("- and +", noteBy("9 - 5 + 3", beet), 7);
        String most = "(8192 * 8192 * 32 - 1)";
        String least = "(8192 * 8192 * 32)";
        is("the most", noteBy(most + " / 9999 / 9999", beet), 15);
        is("the most is above 0", noteBy("0 < " + most, beet), 1);
        is("one more is below", noteBy(most + " + 1 < 0", beet), 1);
        is("one more is the least", noteBy(most + " + 1 = " + least, beet), 1);
        is("the least less 1 is the most", noteBy(least + " - 1 = " + most, beet), 1);
        is("twice the least", noteBy("3 + " + least + " * 2", beet), 3);
        is("the least by -1 is itself", noteBy(least + " / (0 - 1) = " + least, beet), 1);
        is("the least times -1 is itself", noteBy(least + " * (0 - 1) < 0", beet), 1);
        is("compared, not subtracted", noteBy(least + " < " + most, beet), 1);
        is("compared, not subtracted", noteBy(most + " < " + least, beet), 0);
        quote("/ cut down to 0, by 0 gives 0");
        is("7 / 2", noteBy("7 / 2", beet), 3);
        is("-7 / 2 is -3", noteBy("9 + (0 - 7) / 2", beet), 6);
        is("7 / -2 is -3", noteBy("9 + 7 / (0 - 2)", beet), 6);
        is("-7 / -2 is 3", noteBy("(0 - 7) / (0 - 2)", beet), 3);
        is("-1 / 2 is 0", noteBy("9 + (0 - 1) / 2", beet), 9);
        is("by 0", noteBy("9 + 7 / 0", beet), 9);
        is("0 by 0", noteBy("9 + 0 / 0", beet), 9);
        is("by what becomes 0", noteBy("9 + 7 / (size - 9)", beet), 9);
        is("the least by 0", noteBy("9 + " + least + " / 0", beet), 9);
        is("what is by 0 goes on", noteBy("7 / 0 / 0 + 4", beet), 4);
        quote("tests, not, and, or are 1 or 0 (what isn't 0 holds)");
        is("<", noteBy("5 + 4 * (3 < 3)", beet), 5);
        is("<", noteBy("5 + 4 * (2 < 3)", beet), 9);
        is("=", noteBy("5 + 4 * (3 = 3)", beet), 9);
        is("=", noteBy("5 + 4 * (3 = 4)", beet), 5);
        is("not of 0", noteBy("not 0", beet), 1);
        is("not of 7", noteBy("5 + (not 7)", beet), 5);
        is("not of -1", noteBy("5 + (not (0 - 1))", beet), 5);
        is("and of 2 and 4", noteBy("2 and 4", beet), 1);
        is("and of -1 and 1", noteBy("(0 - 1) and 1", beet), 1);
        is("and of 2 and 0", noteBy("2 and 0", beet), 0);
        is("and of 0 and 2", noteBy("0 and 2", beet), 0);
        is("or of 0 and 9", noteBy("0 or 9", beet), 1);
        is("or of 9 and 0", noteBy("9 or 0", beet), 1);
        is("or of 0 and 0", noteBy("0 or 0", beet), 0);
        is("or of -5 and 0", noteBy("0 - 5 or 0", beet), 1);
        is("0 is what does not hold", noteBy("5 + (0 or 0)", beet), 5);
        is("0 is what does not hold", noteBy("5 + (1 and 0)", beet), 5);
        is("1 is what holds", noteBy("5 + (7 or 9)", beet), 6);
        is("1 is what holds", noteBy("5 + (7 and 9)", beet), 6);
        is("and ahead of or", noteBy("1 or 0 and 0", beet), 1);
        is("and ahead of or", noteBy("0 and 0 or 1", beet), 1);
        is("not ahead of and", noteBy("not 1 and 0", beet), 0);
        is("a test ahead of not", noteBy("not 1 = 0", beet), 1);
        is("a test ahead of not", noteBy("not 2 < 1", beet), 1);
        is("a test ahead of not", noteBy("not 1 < 2", beet), 0);
        is("a test ahead of not", noteBy("not 2 = 3", beet), 1);
        is("a sum ahead of not", noteBy("not 1 - 1", beet), 1);
        is("a product ahead of not", noteBy("not 5 * 0", beet), 1);
        is("a sum ahead of a test", noteBy("1 + 1 = 2", beet), 1);
        is("a product ahead of a sum", noteBy("1 + 2 * 3 - 4 / 2", beet), 5);
        is("parentheses ahead of all", noteBy("2 * (3 + (1 or 0))", beet), 8);
        deepRules(beet);
    }

    /** As many operands and signs that wait as there can be, by six EXPRs and six times 'not' in each. */
    private static void deepRules(String beet) {
        String six = "not not not not not not ";
        String open = "0 or 1 and " + six + "1 = 0 + 1 * ";
        is("all that can wait", noteBy((open + "(").repeat(5) + open + "1" + ")".repeat(5), beet), 1);
        is("all that can wait", noteBy((open + "(").repeat(5) + open + "2" + ")".repeat(5), beet), 0);
        is("six EXPRs", noteBy("1+(1+(1+(1+(1+(4*2)))))", beet), 13);
    }

    private static void valuesOfRules() {
        quote("VALUES of a ROOT, of both RULES");
        RootTower t = Texts.tower("note size;turnip 1 0;beet 15 14 3;");
        row("size", root -> t.root(root, 4), 1, 15);
        RootTower h = Texts.tower("note hollow;turnip 60 0;beet 16 15 3;");
        row("hollow", root -> h.root(root, 4), 0, 15);
        RootTower k = Texts.tower("note kind;turnip 9 0;swede 9 0;mangold 9 0 0;beet 9 0;grows kind;");
        row("kind", root -> k.root(root, 4), 0, 1, 2, 3);
        k.days(1);
        row("grows kind", root -> k.root(root, 1), 9, 10, 9, 12);
        RootTower s = Texts.tower("note soft;grows soft;turnip 9 0 0;swede 9 0;weather 4;");
        s.days(2);
        row("soft", root -> s.root(root, 4), 6, 0);
        s.take(0);
        s.days(1);
        row("grows soft", root -> s.root(root, 1), 15, 9);
        quote("'weather' (of the DAY), 'day'");
        RootTower w = Texts.tower("note weather;grows weather;weather 3 5 0;swede 9 0;turnip 9 0 3;");
        row("note weather", d -> w.then(1, d), 3, 5, 0, 3, 5);
        w.days(1);
        is("grows by the DAY that goes", w.root(0, 1), 12);
        w.days(1);
        is("grows by the DAY that goes", w.root(0, 1), 17);
        w.days(1);
        is("grows by the DAY that goes", w.root(0, 1), 17);
        RootTower d = Texts.tower("note day;grows day;swede 9 0;");
        d.days(1);
        is("on DAY 0 by 0", d.root(0, 1), 9);
        d.days(2);
        is("on DAYS 1 and 2", d.root(0, 1), 12);
        is("note day", d.root(0, 4), 3);
        quote("'hung' (1, if it hangs, else 0)");
        is("HOOK 0", noteBy("3 + hung", "beet 9 0 0;"), 4);
        is("HOOK 5", noteBy("3 + hung", "beet 9 0 5;"), 4);
        RootTower hung = Texts.tower("note 3 + hung;grows 1 + hung;swede 9 0;beet 9 0 2;");
        row("hung", root -> hung.root(root, 4), 3, 4);
        hung.days(1);
        is("grows hung is 0", hung.root(0, 1), 10);
        hung.hang(0, 5);
        hung.take(1);
        row("hung", root -> hung.root(root, 4), 4, 3);
        hung.eat(0);
        is("EATEN", hung.root(0, 4), 3);
    }

    private static void notes() {
        quote("Its NOTE is what NOTE gives, kept to 0 to 15");
        String[] rules = {"0 - 9999", "0 - 1", "0", "1", "14", "15", "16", "9999", "8192 * 8192 * 32", "8192 * 8192 * 32 - 1"};
        row("rule", i -> noteBy(rules[i], "beet 9 0;"), 0, 0, 0, 1, 14, 15, 15, 15, 0, 15);
        quote("(without one 15 less half of what SIZE is more than HOLLOW, cut down, not below 0)");
        for (int size = 1; size <= 60; size++) {
            int[] hollows = {0, 1, 19, 20, size - 1};
            for (int hollow : hollows) {
                if (hollow < size && hollow <= 20) {
                    RootTower t = Texts.tower("beet " + size + " " + hollow + ";");
                    is(size + " " + hollow, t.root(0, 4), 2 * 15 < size - hollow ? 0 : 15 - (size - hollow) / 2);
                }
            }
        }
        int[] sizes = {1, 2, 3, 4, 29, 30, 31, 32, 60};
        row("SIZE", i -> Texts.tower("beet " + sizes[i] + " 0;").root(0, 4), 15, 14, 14, 13, 1, 0, 0, 0, 0);
    }

    private static void weatherOfADay() {
        quote("that of DAY d is the (d MOD how many)-th");
        RootTower one = Texts.tower("weather 7;");
        is("the first", one.count(3), 7);
        one.days(30);
        is("of one", one.count(3), 7);
        RootTower three = Texts.tower("weather 0 9 5;");
        int[] due = {0, 9, 5, 0, 9, 5, 0};
        for (int day = 0; day < due.length; day++) {
            is("DAY " + day, three.count(3), due[day]);
            three.days(1);
        }
        RootTower ten = Texts.tower("weather 0 1 2 3 4 5 6 7 8 9;");
        ten.days(9);
        is("DAY 9", ten.count(3), 9);
        ten.days(1);
        is("DAY 10", ten.count(3), 0);
        for (int i = 0; i < 32; i++) {
            ten.days(30);
        }
        ten.days(29);
        is("DAY 999", ten.count(2), 999);
        is("DAY 999", ten.count(3), 9);
        quote("4 without");
        RootTower without = new RootTower();
        is("DAY 0", without.count(3), 4);
        without.days(30);
        is("DAY 30", without.count(3), 4);
    }

    private static void sounding() {
        quote("The DAY is 0, SOFTNESS of all 0.");
        RootTower t = Texts.tower("beet 9 0 0;swede 9 0;lasts 3;weather 0;");
        is("DAY", t.count(2), 0);
        row("SOFTNESS", root -> t.root(root, 3), 0, 0);
        quote("It is SOFT, if SOFTNESS is LASTS or more");
        t.days(2);
        is("one less", t.root(0, 3), 2);
        is("it SOUNDS", t.root(0, 6), 1);
        is("SOUND", t.count(7), 1);
        is("NOTES", t.count(10), 1 << 11);
        t.days(1);
        is("LASTS", t.root(0, 3), 3);
        is("it is SOFT", t.root(0, 6), 0);
        is("none SOUNDS", t.count(7), 0);
        is("no NOTES", t.count(10), 0);
        t.days(1);
        is("more", t.root(0, 6), 0);
        is("a BELL all the same", t.count(1), 1);
        quote("it SOUNDS, if it hangs, and isn't SOFT");
        is("in THE GARDEN", t.root(1, 6), 0);
        t.hang(1, 1);
        is("it hangs", t.root(1, 6), 1);
        t.eat(1);
        is("EATEN", t.root(1, 6), 0);
        RootTower most = Texts.tower("beet 9 0 0;lasts 99;weather 8;");
        most.days(19);
        is("95", most.root(0, 3), 95);
        is("it SOUNDS", most.root(0, 6), 1);
        most.days(1);
        is("99", most.root(0, 3), 99);
        is("it is SOFT", most.root(0, 6), 0);
    }

    private static int grownBy(String rule, int size) {
        RootTower t = Texts.tower("beet " + size + " 0;grows " + rule + ";");
        t.days(1);
        return t.root(0, 1) - size;
    }

    private static int grownIn(int weather) {
        RootTower t = Texts.tower("beet 9 0;weather " + weather + ";");
        t.days(1);
        return t.root(0, 1) - 9;
    }

    private static void growing() {
        quote("each ROOT in THE GARDEN grows by what GROWS gives, kept to 0 to 9");
        String[] rules = {"0 - 9999", "0 - 1", "0", "1", "8", "9", "10", "9999"};
        row("GROWS", i -> grownBy(rules[i], 20), 0, 0, 0, 1, 8, 9, 9, 9);
        quote("(without one 1, if WEATHER is less than 5, else 0)");
        row("WEATHER", ActEdgesTest::grownIn, 1, 1, 1, 1, 1, 0, 0, 0, 0, 0);
        is("WEATHER without", Texts.tower("beet 9 0;").then(0, 1), 10);
        quote("to SIZE 60 at most");
        row("9 more from 50 on", i -> grownBy("9", 50 + i), 9, 9, 8, 7, 6, 5, 4, 3, 2, 1, 0);
        RootTower t = Texts.tower("beet 59 0;swede 60 0;mangold 58 0 0;turnip 5 0;");
        t.eat(3);
        t.days(1);
        row("SIZE", root -> t.root(root, 1), 60, 60, 58, 5);
        t.days(30);
        row("SIZE", root -> t.root(root, 1), 60, 60, 58, 5);
    }

    private static void softening() {
        quote("each that hangs is softer by 1, and by half of the WEATHER, cut down (to 99 at most)");
        int[] due = {1, 1, 2, 2, 3, 3, 4, 4, 5, 5};
        for (int weather = 0; weather < 10; weather++) {
            RootTower t = Texts.tower("beet 9 0 5;swede 9 0;weather " + weather + ";");
            t.days(1);
            is("WEATHER " + weather, t.root(0, 3), due[weather]);
            is("in THE GARDEN", t.root(1, 3), 0);
        }
        RootTower t = Texts.tower("beet 9 0 5;weather 8 8 8 8 4;lasts 99;swede 9 0 1;");
        t.eat(1);
        t.days(21);
        is("4 times 23 and 5", t.root(0, 3), 97);
        t.days(1);
        is("99", t.root(0, 3), 99);
        t.days(30);
        is("99", t.root(0, 3), 99);
        is("EATEN", t.root(1, 3), 0);
        RootTower exact = Texts.tower("beet 9 0 5;weather 0;lasts 99;");
        exact.days(30);
        exact.days(30);
        exact.days(30);
        exact.days(8);
        is("98", exact.root(0, 3), 98);
        exact.days(1);
        is("99", exact.root(0, 3), 99);
        exact.days(1);
        is("99", exact.root(0, 3), 99);
        quote("The DAY is one more then.");
        is("DAY", exact.count(2), 100);
    }

    private static void counts() {
        quote("NoSuchElementException: another what.");
        RootTower t = Texts.tower(SIX + "swede 20 0;swede 20 0;swede 20 0;swede 20 0;tune 0 1 2 3 4 5 6 7;method 0 0 0 0 0 0 0 0 0 0 0 0;");
        row("all", t::count, 10, 6, 0, 4, 20, 8, 12, 0b111111, 0b1111000000, 0, 1 << 11, 0, 0, 0, 0, 0, 0);
        noneOf("count", t::count, -2, -1, 17, 18);
        for (int root = 0; root < 10; root++) {
            t.eat(root);
        }
        row("all EATEN", t::count, 10, 0, 0, 4, 20, 8, 12, 0, 0, 0b1111111111, 0, 10);
        quote("10 NOTES that SOUND (bits)");
        RootTower notes = Texts.tower("note size;beet 1 0 0;beet 15 0 1;beet 15 0 2;beet 7 0;");
        is("like ones once", notes.count(10), 1 << 15 | 1 << 1);
        is("NOTE 0", Texts.tower("note 0;beet 9 0 5;").count(10), 1);
        RootTower status = Texts.tower("beet 9 0;");
        Texts.read(status, "sun");
        Texts.read(status, "sun");
        Texts.read(status, "sun");
        status.days(0);
        status.days(0);
        status.hear(31, 0, true);
        quote("0 of TEXTS with a FAULT, 1 of ACTS, 2 of what is HEARD");
        row("STATUS", i -> status.count(14 + i), 3, 2, 1);
    }

    private static void rootsAndHooks() {
        quote("NoSuchElementException: no such ROOT (as everywhere), what.");
        RootTower t = Texts.tower(SIX + "swede 60 20;swede 21 20;turnip 1 0;mangold 20 19;");
        noneOf("root", root -> t.root(root, 0), -1, 10, 11);
        for (int root = 0; root < 10; root += 9) {
            int of = root;
            noneOf("what", what -> t.root(of, what), -1, 8, 9);
        }
        none("both", () -> t.root(10, 8));
        quote("7 by how much it may be HOLLOWED (0 EATEN)");
        row("may be", root -> t.root(root, 7), 8, 8, 8, 8, 8, 8, 0, 0, 0, 0);
        t.hollow(0, 8);
        is("all of it", t.root(0, 7), 0);
        t.eat(1);
        is("EATEN", t.root(1, 7), 0);
        is("20 in all", Texts.tower("beet 60 0;").root(0, 7), 20);
        is("20 in all", Texts.tower("beet 21 0;").root(0, 7), 20);
        is("less than SIZE", Texts.tower("beet 20 0;").root(0, 7), 19);
        is("both", Texts.tower("beet 20 3;").root(0, 7), 16);
        is("both", Texts.tower("beet 40 3;").root(0, 7), 17);
        quote("5 HOOK (NONE: in THE GARDEN; -2: EATEN)");
        row("HOOK", root -> t.root(root, 5), 0, -2, 2, 3, 4, 5, -1, -1, -1, -1);
        t.eat(9);
        is("EATEN from THE GARDEN", t.root(9, 5), -2);
        quote("Which ROOT hangs on a HOOK; NONE: none.");
        row("hook", t::hook, 0, -1, 2, 3, 4, 5);
        quote("NoSuchElementException: no such HOOK (as everywhere).");
        noneOf("hook", t::hook, -2, -1, 6, 7);
    }

    private static void tuneAndChange() {
        quote("The i-th NOTE of THE TUNE. NoSuchElementException: there is none.");
        RootTower t = Texts.tower("tune 15 0 15;method 21;");
        row("tune", t::tune, 15, 0, 15);
        noneOf("tune", t::tune, -1, 3, 8);
        quote("The i-th CHANGE of the METHOD. NoSuchElementException: there is none.");
        is("change", t.change(0), 21);
        noneOf("change", t::change, -1, 1, 12);
        is("another TEXT", Texts.read(t, "tune 4;method 1 2;"), 0);
        noneOf("tune", t::tune, 1);
        noneOf("change", t::change, 2);
    }

    private static void days() {
        quote("NONE (STATUS 1): not 1 to 30, it would be above 999.");
        RootTower t = new RootTower();
        int[] wrong = {0, -1, 31, 32, Integer.MAX_VALUE, Integer.MIN_VALUE, Integer.MAX_VALUE - 30};
        for (int i = 0; i < wrong.length; i++) {
            is("days(" + wrong[i] + ")", t.days(wrong[i]), -1);
            is("STATUS 1", t.count(15), i + 1);
        }
        is("DAY", t.count(2), 0);
        is("no ACT", t.count(11), 0);
        is("1", t.days(1), 1);
        is("30", t.days(30), 31);
        for (int i = 0; i < 31; i++) {
            t.days(30);
        }
        is("DAY", t.count(2), 961);
        is("30", t.days(30), 991);
        is("1000", t.days(9), -1);
        is("1000", t.days(30), -1);
        is("DAY", t.count(2), 991);
        is("999", t.days(8), 999);
        is("1000", t.days(1), -1);
        is("DAY", t.count(2), 999);
        is("STATUS 1", t.count(15), wrong.length + 3);
        is("undone", t.undo(), 34);
        is("999 again", t.days(8), 999);
        // what goes by in questions alone is not kept to 999
        is("then", Texts.tower("tune 1;").earliest(), -1);
        RootTower late = Texts.tower("note day - 999;beet 9 0 1;lasts 99;weather 0;");
        for (int i = 0; i < 33; i++) {
            late.days(30);
        }
        is("then", late.then(0, 24), 15);
        is("then", late.then(0, 10), 1);
    }

    private static void hanging() {
        quote("HUNG: the HOOK as it was (NONE: from THE GARDEN).");
        RootTower t = Texts.tower("beet 9 0;swede 9 0 0;turnip 9 0;weather 0;");
        is("from THE GARDEN", t.hang(0, 5), -1);
        is("from HOOK 5", t.hang(0, 4), 5);
        is("from HOOK 4", t.hang(0, 1), 4);
        is("from HOOK 0", t.hang(1, 5), 0);
        is("onto HOOK 0", t.hang(0, 0), 1);
        row("hook", t::hook, 0, -1, -1, -1, -1, 1);
        is("ACTS", t.count(11), 5);
        quote("-2 (STATUS 1): EATEN, one hangs there (itself, too).");
        is("one hangs there", t.hang(2, 0), -2);
        is("one hangs there", t.hang(0, 5), -2);
        is("itself", t.hang(0, 0), -2);
        t.eat(2);
        is("EATEN", t.hang(2, 3), -2);
        is("EATEN, and one hangs there", t.hang(2, 0), -2);
        is("STATUS 1", t.count(15), 5);
        is("ACTS", t.count(11), 6);
        noneOf("HOOK", hook -> t.hang(0, hook), -1, 6);
        noneOf("HOOK of one EATEN", hook -> t.hang(2, hook), -1, 6);
        noneOf("ROOT", root -> t.hang(root, 3), -1, 3);
        noneOf("ROOT, where one hangs", root -> t.hang(root, 0), -1, 3);
        is("STATUS 1", t.count(15), 5);
        t.eat(1);
        is("where one was that is EATEN", t.hang(0, 5), 0);
        quote("(from THE GARDEN, or from another HOOK; its SOFTNESS stays)");
        t.days(3);
        is("SOFTNESS", t.root(0, 3), 3);
        is("hang", t.hang(0, 1), 5);
        is("SOFTNESS", t.root(0, 3), 3);
        is("take", t.take(0), 1);
        is("SOFTNESS", t.root(0, 3), 3);
        is("hang", t.hang(0, 1), -1);
        is("SOFTNESS", t.root(0, 3), 3);
        RootTower full = Texts.tower(SIX + "beet 9 0;");
        for (int hook = 0; hook < 6; hook++) {
            is("all are taken", full.hang(6, hook), -2);
        }
    }

    private static void taking() {
        quote("TAKEN: the HOOK. NONE (STATUS 1): it doesn't hang.");
        RootTower t = Texts.tower("beet 9 0 0;swede 9 0 5;turnip 9 0;");
        is("HOOK 0", t.take(0), 0);
        is("HOOK 5", t.take(1), 5);
        is("in THE GARDEN", t.take(0), -1);
        is("in THE GARDEN", t.take(2), -1);
        t.eat(2);
        is("EATEN", t.take(2), -1);
        is("STATUS 1", t.count(15), 3);
        is("ACTS", t.count(11), 3);
        noneOf("ROOT", t::take, -1, 3);
        is("STATUS 1", t.count(15), 3);
        t.days(1);
        is("it grows again", t.root(0, 1), 10);
    }

    private static void hollowing() {
        quote("HOLLOWED: its NOTE. NONE (STATUS 1): EATEN, not 1 to as much as it may be.");
        RootTower t = Texts.tower("beet 60 0;swede 21 0 0;turnip 10 4;mangold 1 0;beet 40 20;swede 9 0;");
        is("0", t.hollow(0, 0), -1);
        is("-1", t.hollow(0, -1), -1);
        is("far", t.hollow(0, Integer.MIN_VALUE), -1);
        is("far", t.hollow(0, Integer.MAX_VALUE), -1);
        is("21", t.hollow(0, 21), -1);
        is("20", t.hollow(0, 20), 0);
        is("no more", t.hollow(0, 1), -1);
        is("21", t.hollow(1, 21), -1);
        is("20, less than SIZE", t.hollow(1, 20), 15);
        is("as much as SIZE", t.hollow(2, 6), -1);
        is("one less", t.hollow(2, 5), 15);
        is("no more", t.hollow(2, 1), -1);
        is("SIZE 1", t.hollow(3, 1), -1);
        is("HOLLOW 20", t.hollow(4, 1), -1);
        t.eat(5);
        is("EATEN", t.hollow(5, 1), -1);
        is("STATUS 1", t.count(15), 12);
        row("HOLLOW", root -> t.root(root, 2), 20, 20, 9, 0, 20, 0);
        is("ACTS", t.count(11), 4);
        noneOf("ROOT", root -> t.hollow(root, 1), -1, 6);
        noneOf("ROOT, not so much", root -> t.hollow(root, 0), -1, 6);
        is("STATUS 1", t.count(15), 12);
        t.days(1);
        is("it grew by 1", t.hollow(3, 1), 15);
        is("no more", t.hollow(3, 1), -1);
        is("1 is the least", Texts.tower("beet 9 0;note hollow;").hollow(0, 1), 1);
    }

    private static void eating() {
        quote("EATEN: true. False (STATUS 1): already.");
        RootTower t = Texts.tower("beet 9 0 0;swede 9 0;");
        is("one that hangs", t.eat(0), true);
        is("one in THE GARDEN", t.eat(1), true);
        is("already", t.eat(0), false);
        is("already", t.eat(1), false);
        is("STATUS 1", t.count(15), 2);
        is("ACTS", t.count(11), 2);
        noneOf("ROOT", root -> t.eat(root) ? 1 : 0, -1, 2);
        is("STATUS 1", t.count(15), 2);
        is("its HOOK is free", t.hook(0), -1);
        is("ROOTS all the same", t.count(0), 2);
    }

    private static void altering() {
        quote("A CHANGE becomes another: as it was. NONE (STATUS 1): no such number.");
        RootTower t = Texts.tower("method 0 21 0 0 0 0 0 0 0 0 0 4;");
        int refused = 0;
        for (int number = -2; number <= 34; number++) {
            boolean fine = number >= 0 && number < 32 && (number & number >> 1) == 0;
            int was = t.change(1);
            is("alter to " + number, t.alter(1, number), fine ? was : -1);
            refused += fine ? 0 : 1;
            is("change", t.change(1), fine ? number : was);
            is("STATUS 1", t.count(15), refused);
        }
        is("far", t.alter(0, Integer.MAX_VALUE), -1);
        is("far", t.alter(0, Integer.MIN_VALUE), -1);
        is("far, its low bits fine", t.alter(0, 1 << 8), -1);
        is("the last one", t.alter(11, 5), 4);
        quote("NoSuchElementException (ahead): no such CHANGE in the METHOD.");
        noneOf("CHANGE", i -> t.alter(i, 1), -1, 12);
        noneOf("ahead", i -> t.alter(i, 3), -1, 12);
        noneOf("no METHOD", i -> new RootTower().alter(i, 3), 0);
        is("STATUS 1", t.count(15), refused + 3);
    }

    private static void actsKept() {
        quote("ACTS (at most 40 are kept, the latest ones)");
        RootTower t = Texts.tower("beet 9 0;");
        for (int i = 1; i <= 39; i++) {
            t.hang(0, i % 2);
        }
        is("39", t.count(11), 39);
        t.take(0);
        is("40", t.count(11), 40);
        t.days(1);
        is("40", t.count(11), 40);
        is("undone", t.undo(), 39);
        is("undone", t.undo(), 38);
        is("HOOK", t.root(0, 5), 1);
        for (int left = 37; left >= 0; left--) {
            is("undone", t.undo(), left);
        }
        is("behind the first one", t.root(0, 5), 1);
        is("none", t.undo(), -1);
        is("it stays", t.root(0, 5), 1);
        RootTower all = Texts.tower("beet 9 0;");
        for (int i = 1; i <= 40; i++) {
            all.days(2);
        }
        for (int left = 39; left >= 0; left--) {
            is("undone", all.undo(), left);
        }
        is("all", all.count(2), 0);
        RootTower far = Texts.tower("beet 9 0;");
        for (int i = 1; i <= 100; i++) {
            far.days(1);
        }
        for (int left = 39; left >= 0; left--) {
            far.undo();
            is("DAY", far.count(2), 60 + left);
        }
        is("none", far.undo(), -1);
    }

    private static void undoing() {
        quote("They are UNDONE, the last one first.");
        RootTower t = Texts.tower("beet 58 0;swede 9 0 2;method 1 2;weather 0;lasts 99;");
        t.days(30);
        is("SIZE", t.root(0, 1), 60);
        t.undo();
        is("SIZE", t.root(0, 1), 58);
        is("SOFTNESS", t.root(1, 3), 0);
        is("DAY", t.count(2), 0);
        t.hollow(0, 20);
        t.undo();
        is("HOLLOW", t.root(0, 2), 0);
        t.eat(1);
        t.undo();
        is("HOOK", t.root(1, 5), 2);
        t.take(1);
        t.hang(0, 2);
        t.undo();
        t.undo();
        row("hook", t::hook, -1, -1, 1, -1, -1, -1);
        t.alter(0, 21);
        t.alter(0, 0);
        t.undo();
        is("the last one first", t.change(0), 21);
        t.undo();
        is("change", t.change(0), 1);
        quote("The last ACT is UNDONE: how many are left. NONE: there is none.");
        is("none", t.undo(), -1);
        is("no STATUS", t.count(15), 0);
        t.hear(0, 0, true);
        t.days(0);
        is("neither HEARD nor what was refused is an ACT", t.undo(), -1);
        is("HEARD", t.count(12), 1);
        t.days(2);
        is("undo", t.undo(), 0);
        is("HEARD stays", t.count(12), 1);
    }

    private static void images() {
        quote("are kept as an image, in place of another one");
        quote("They are as the image again: true. False: there is none.");
        RootTower t = Texts.tower("beet 9 0;swede 9 0 2;method 1 2;weather 0;");
        is("none", t.restore(), false);
        is("DAY", t.count(2), 0);
        t.image();
        t.days(5);
        is("restore", t.restore(), true);
        is("DAY", t.count(2), 0);
        is("ACTS", t.count(11), 0);
        t.days(7);
        t.image();
        t.eat(0);
        is("the later one", t.restore(), true);
        is("DAY", t.count(2), 7);
        is("EATEN", t.count(9), 0);
        is("ACTS", t.count(11), 1);
        is("undo", t.undo(), 0);
        is("it is there still", t.restore(), true);
        is("DAY", t.count(2), 7);
        t.days(1);
        is("and again", t.restore(), true);
        is("DAY", t.count(2), 7);
        for (int i = 0; i < 8; i++) {
            t.hear(i, i, true);
        }
        t.image();
        t.forget();
        t.hear(1, 1, false);
        is("restore", t.restore(), true);
        is("all eight", t.count(12), 8);
        is("no room", t.hear(0, 0, true), -1);
        is("a FAULT leaves it", Texts.read(t, "sun"), 1);
        is("restore", t.restore(), true);
        Texts.feed(t, "beet 9 0;");
        is("restore", t.restore(), true);
        is("not the tape", t.count(13), 20);
        is("not STATUS", t.count(14), 1);
        is("not STATUS", t.count(16), 1);
        is("not the place of the FAULT", t.fault(), 0);
        is("another TEXT", t.tower(20), 0);
        is("none", t.restore(), false);
        RootTower empty = new RootTower();
        empty.image();
        empty.days(3);
        is("without ROOTS", empty.restore(), true);
        is("DAY", empty.count(2), 0);
    }

    private static void imageOfAllActs() {
        quote("ACTS and what is HEARD are kept as an image");
        for (int many : new int[] {40, 45, 80}) {
            RootTower t = Texts.tower("beet 9 0 1;lasts 99;weather 0;");
            for (int i = 0; i < many; i++) {
                t.days(1);
            }
            t.image();
            for (int i = 0; i < 47; i++) {
                t.hang(0, i % 2 * 5);
            }
            is("restore", t.restore(), true);
            is("DAY", t.count(2), many);
            is("ACTS", t.count(11), 40);
            for (int left = 39; left >= 0; left--) {
                is("undo", t.undo(), left);
                is("DAY", t.count(2), many - 40 + left);
                is("HOOK", t.root(0, 5), 1);
            }
            is("no more", t.undo(), -1);
        }
    }

    /** What was asked ahead of a change is asked again behind it. */
    private static void answersBehindAChange() {
        promise("what is asked is asked of now");
        RootTower t = Texts.tower("beet 9 0 0;beet 9 0;tune 11;lasts 4;weather 0;grows 0;");
        isAsked(t, 3, 0, 1);
        t.hang(1, 3);
        isAsked(t, 3, 0, 3);
        t.days(2);
        isAsked(t, 1, 0, 3);
        t.image();
        t.hollow(0, 4);
        isAsked(t, 1, 1, 3);
        t.eat(1);
        isAsked(t, -1, -2, 1);
        is("undo", t.undo(), 3);
        isAsked(t, 1, 1, 3);
        is("restore", t.restore(), true);
        isAsked(t, 1, 0, 3);
        is("undo", t.undo(), 1);
        isAsked(t, 3, 0, 3);
        is("take", t.take(1), 3);
        isAsked(t, 3, 0, 1);
        is("tower", Texts.read(t, "beet 5 0 0;beet 11 0 1;tune 11;lasts 9;weather 0;"), 0);
        isAsked(t, -1, 1, 3);
    }

    private static void isAsked(RootTower t, int last, int fit, int sounding) {
        is("last", t.last(), last);
        is("fit", t.fit(0), fit);
        is("SOUND", t.count(7), sounding);
        is("rings", t.rings(0), last >= 0);
    }

    /** All that a TOWER can have at once: DAYS change the one that they should, and no other. */
    private static void allTen() {
        quote("A ROOT hangs on a HOOK, or it is in THE GARDEN, or EATEN.");
        RootTower t = Texts.tower("beet 9 8 5;" + "turnip 9 7 0;turnip 9 6 1;turnip 9 5 2;turnip 9 4 3;turnip 9 3 4;swede 9 2;swede 9 1;swede 9 0;mangold 9 5;"
            + "weather 0 1 2 3 4 5 6 7 8 9;lasts 99;tune 1 2 3 4 5 6 7 8;method 1 2 4 5 8 9 10 16 17 18 20 21;");
        t.days(10);
        t.eat(9);
        t.days(10);
        row("KIND", root -> t.root(root, 0), 3, 0, 0, 0, 0, 0, 1, 1, 1, 2);
        row("SIZE", root -> t.root(root, 1), 9, 9, 9, 9, 9, 9, 19, 19, 19, 14);
        row("HOLLOW", root -> t.root(root, 2), 8, 7, 6, 5, 4, 3, 2, 1, 0, 5);
        row("SOFTNESS", root -> t.root(root, 3), 60, 60, 60, 60, 60, 60, 0, 0, 0, 0);
        row("HOOK", root -> t.root(root, 5), 5, 0, 1, 2, 3, 4, -1, -1, -1, -2);
        row("change", t::change, 1, 2, 4, 5, 8, 9, 10, 16, 17, 18, 20, 21);
        row("tune", t::tune, 1, 2, 3, 4, 5, 6, 7, 8);
        is("SOUND", t.count(7), 0b0000111111);
        is("in THE GARDEN", t.count(8), 0b0111000000);
        is("EATEN", t.count(9), 0b1000000000);
    }

    private static void lastCall() {
        quote("An object is used for at most 512 calls after it has been made");
        RootTower t = new RootTower();
        for (int call = 1; call <= 511; call++) {
            is("days", t.days(1), call);
        }
        is("the 512th", t.undo(), 39);
    }
}
