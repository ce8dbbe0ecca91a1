/** The promises of the document one by one, each with answers worked out by hand: ordinary inputs, edges, wrong inputs. */
public final class PromisesTest extends Checks {
    /** NOTES 11, 10, 7 hang, a beet of NOTE 11 is in the garden; SOFT on DAY 2. */
    private static final String FOUR =
        "turnip 10 2 0;turnip 14 3 1;swede 20 4 2;beet 9 0;weather 2 6;lasts 6;tune 11 10 7;method 1 2;";

    public static void main(String[] args) {
        newObject();
        feed();
        tower();
        faultsOfLines();
        faultsOfRules();
        rulesWork();
        counts();
        roots();
        plainReads();
        days();
        hangAndTake();
        hollowAndEat();
        alterAndUndo();
        courseOfDays();
        going();
        rows();
        lengths();
        fits();
        keepersAndEarliest();
        hearing();
        games();
        towers();
        neededAndGrown();
        scaleAndMouth();
        leadsAndMeets();
        withoutOftenSpare();
        images();
        end("PromisesTest");
    }

    private static void newObject() {
        promise("1 A new object");
        RootTower t = new RootTower();
        int[] due = {0, 0, 0, 4, 20, 0, 0, 0, 0, 0, 0, 0, 0, 0, 0, 0, 0};
        for (int what = 0; what < due.length; what++) {
            is("count(" + what + ")", t.count(what), due[what]);
        }
        is("NONE", RootTower.NONE, -1);
        is("fault", t.fault(), -1);
        is("hook", t.hook(0), -1);
        is("restore", t.restore(), false);
        is("next", t.next(0), -1);
        is("next", t.next(1), 0);
        none("root", () -> t.root(0, 0));
    }

    private static void feed() {
        promise("2 feed");
        RootTower t = new RootTower();
        for (int i = 1; i <= 35; i++) {
            is("feed " + i, t.feed(0x20202020, 0x20202020, 0x20202020, 0x20202020, 0x20202020), 20 * i);
        }
        is("the 36th", t.feed(0, 0, 0, 0, 0), -1);
        is("bytes", t.count(13), 700);
        is("none came", t.tower(700), 0);
        is("empty", t.count(13), 0);
        is("STATUS", t.count(14), 0);
        // "turnip 9 1 0;tune 11" and ";": the highest byte of each number first
        is("feed", t.feed(0x7475726e, 0x69702039, 0x20312030, 0x3b74756e, 0x65203131), 20);
        is("feed", t.feed(0x3b202020, 0x20202020, 0x20202020, 0x20202020, 0x20202020), 40);
        is("tower", t.tower(21), 0);
        is("rings", t.rings(0), true);
        is("last", t.last(), 6);
        t.feed(-1, Integer.MIN_VALUE, 0, 1, 2);
        is("no token", t.tower(20), 1);
        is("at", t.fault(), 0);
    }

    private static void tower() {
        promise("3 tower, 4 fault");
        RootTower t = Texts.tower(FOUR);
        t.days(1);
        t.hear(1, 1, true);
        t.image();
        t.days(40);
        Texts.feed(t, "lasts 1;");
        bad("more than it has", () -> t.tower(21));
        bad("below 0", () -> t.tower(-1));
        bad("far below 0", () -> t.tower(Integer.MIN_VALUE));
        is("the tape stays", t.count(13), 20);
        is("the fault stays", t.fault(), -1);
        is("the first bytes alone", t.tower(3), 1);
        is("at", t.fault(), 0);
        is("the tape is empty", t.count(13), 0);
        is("all stays: roots", t.count(0), 4);
        is("all stays: day", t.count(2), 1);
        is("all stays: acts", t.count(11), 1);
        is("all stays: heard", t.count(12), 1);
        is("all stays: image", t.restore(), true);
        bad("1 of 0", () -> t.tower(1));
        is("the fault stays", t.fault(), 0);
        is("anew", Texts.read(t, "beet 3 1 5;"), 0);
        is("no fault", t.fault(), -1);
        is("roots", t.count(0), 1);
        is("day", t.count(2), 0);
        is("weather", t.count(3), 4);
        is("lasts", t.count(4), 20);
        is("tune", t.count(5), 0);
        is("method", t.count(6), 0);
        is("acts are gone", t.count(11), 0);
        is("heard is gone", t.count(12), 0);
        is("the image is gone", t.restore(), false);
        is("STATUS stays", t.count(14), 1);
        is("STATUS stays", t.count(15), 1);
        is("an empty text", t.tower(0), 0);
        is("no roots", t.count(0), 0);
        faulty("", 0, -1);
        faulty(" \n \n", 0, -1);
        faulty("turnip10 2 0;swede\n5 1\n;", 0, -1);
    }

    private static void faultsOfLines() {
        promise("3 tower: faults of lines");
        faulty("turnip 0 0;", 2, 7);
        faulty("turnip 61 0;", 2, 7);
        faulty("turnip 60 20 5;", 0, -1);
        faulty("turnip 0060 0;", 0, -1);
        faulty("turnip 00060 0;", 2, 7);
        faulty("swede 5 5;", 2, 8);
        faulty("beet 30 21;", 2, 8);
        faulty("turnip 5 0 6;", 2, 11);
        faulty("turnip 5 0 1 1;", 1, 13);
        faulty("turnip 5 0 1 99999;", 1, 13);
        faulty("turnip 5 0 1;beet 9 0 2;swede 5 0 1;", 4, 34);
        faulty("turnip size 0;", 1, 7);
        faulty("turnip;", 1, 6);
        faulty("turnips 5 0;", 1, 0);
        faulty("Turnip 5 0;", 1, 0);
        faulty("turnip 5 0;\tbeet 5 0;", 1, 11);
        faulty("turnip 5 0 ", 1, 11);
        faulty("turnip 5  ", 1, 10);
        faulty(";", 1, 0);
        faulty("5;", 1, 0);
        faulty("12345;", 1, 0);
        faulty("size;", 1, 0);
        faulty("turnip 5 0;".repeat(10), 0, -1);
        faulty("turnip 5 0;".repeat(10) + "beet", 2, 110);
        faulty("turnip 5 0;".repeat(10) + "beets", 1, 110);
        faulty("weather 0 1 2 3 4 5 6 7 8 9;", 0, -1);
        faulty("weather 0 1 2 3 4 5 6 7 8 9 0;", 2, 28);
        faulty("weather 0 1 2 3 4 5 6 7 8 9 x;", 1, 28);
        faulty("weather 10;", 2, 8);
        faulty("weather;", 1, 7);
        faulty("weather 1;weather", 5, 10);
        faulty("lasts 99;", 0, -1);
        faulty("lasts 100;", 2, 6);
        faulty("lasts 0;", 2, 6);
        faulty("lasts 1 2;", 1, 8);
        faulty("lasts 1;lasts 1;", 5, 8);
        faulty("tune 0 1 2 3 4 5 14 15;", 0, -1);
        faulty("tune 0 1 2 3 4 5 14 15 1;", 2, 23);
        faulty("tune 16;", 2, 5);
        faulty("tune;", 1, 4);
        faulty("tune 1;tune 1;", 5, 7);
        faulty("method 0 1 2 4 5 8 9 10 16 17 18 20;", 0, -1);
        faulty("method 0 1 2 4 5 8 9 10 16 17 18 20 21;", 2, 36);
        faulty("method 21;", 0, -1);
        for (int change : new int[] {3, 6, 7, 11, 12, 19, 22, 24, 28, 31, 32, 9999}) {
            faulty("method 1 " + change + ";", 2, 9);
        }
        faulty("method 1;method 1;", 5, 9);
        faulty("note 1;note 1;", 5, 7);
        faulty("grows 1;note 1;grows 1;", 5, 15);
        faulty("lasts 1", 1, 7);
        faulty("lasts 1  \n", 1, 10);
    }

    private static void faultsOfRules() {
        promise("3 tower: faults of rules");
        faulty("note;", 1, 4);
        faulty("note", 1, 4);
        faulty("note sun;", 3, 5);
        faulty("note or;", 3, 5);
        faulty("note turnip;", 3, 5);
        faulty("note 1 + not 1;", 3, 9);
        faulty("note 1 < not 1;", 3, 9);
        faulty("note 1 and not 1;", 0, -1);
        faulty("note 1 or or 1;", 3, 10);
        faulty("note 1 sun;", 1, 7);
        faulty("note 1 size;", 1, 7);
        faulty("note 1 not 1;", 1, 7);
        faulty("note 1 1;", 1, 7);
        faulty("note 1 12345;", 1, 7);
        faulty("note 12345;", 2, 5);
        faulty("note 9999;", 0, -1);
        faulty("note 1 < 2 < 3;", 1, 11);
        faulty("note 1 < 2 = 3;", 1, 11);
        faulty("note 1 < 2 and 1 = 3 or 2 < 1;", 0, -1);
        faulty("note (1 < 2) < (3 = 1);", 0, -1);
        faulty("note 1 < (2) < 3;", 1, 13);
        faulty("note + 1;", 1, 5);
        faulty("note 1 + ;", 1, 9);
        faulty("note (1;", 1, 7);
        faulty("note 1);", 1, 6);
        faulty("note ();", 1, 6);
        faulty("note (1)(2);", 1, 8);
        faulty("note 1 % 2;", 1, 7);
        faulty("note (((((1)))));", 0, -1);
        faulty("note ((((((1))))));", 2, 11);
        faulty("note ((((((size))))));", 2, 11);
        faulty("note ((((((sun))))));", 2, 11);
        faulty("note ((((((not 1))))));", 2, 11);
        faulty("note ((((((12345))))));", 2, 11);
        faulty("note (((((((1)))))));", 2, 11);
        faulty("note (((((()))))));", 1, 11);
        faulty("note ((((((+", 1, 11);
        faulty("note ((((((", 1, 11);
        faulty("note (((((1))))) + (((((2)))));", 0, -1);
        faulty("note not not not not not not 1;", 0, -1);
        faulty("note not not not not not not not 1;", 2, 29);
        faulty("note not not not not not not (not not not not not not 1);", 0, -1);
        faulty("note not not not not not not 1 and not not not not not not 1;", 0, -1);
        faulty("note not;", 1, 8);
        faulty("grows day weather;", 1, 10);
        RootTower t = new RootTower();
        is("seven", Texts.read(t, "note not not not not not not not 1;"), 2);
        is("the next text begins anew", Texts.read(t, "note not 1 < 2;beet 9 0;"), 0);
        is("not", t.root(0, 4), 0);
        is("open", Texts.read(t, "note 1 < (((2 = 1 +"), 1);
        is("the next text begins anew", Texts.read(t, "note 2 < 3;beet 9 0;"), 0);
        is("<", t.root(0, 4), 1);
    }

    private static void rulesWork() {
        promise("3 tower: what rules give");
        is("from the left", noteBy("20 - 5 - 4", "beet 9 1;"), 11);
        is("from the left", noteBy("40 / 2 / 2", "beet 9 1;"), 10);
        is("* ahead of +", noteBy("1 + 2 * 3", "beet 9 1;"), 7);
        is("parentheses", noteBy("(1 + 2) * 3", "beet 9 1;"), 9);
        is("cut down to 0", noteBy("8 + (0 - 7) / 2", "beet 9 1;"), 5);
        is("by 0", noteBy("7 + 5 / 0", "beet 9 1;"), 7);
        is("wraps", noteBy("9 + 8192 * 8192 * 64", "beet 9 1;"), 9);
        is("wraps", noteBy("9999 * 9999 * 100 < 0", "beet 9 1;"), 0);
        is("wraps", noteBy("5 * (9999 * 9999 * 30 < 0)", "beet 9 1;"), 5);
        is("not (1 < 2)", noteBy("not 2 < 1", "beet 9 1;"), 1);
        is("not not", noteBy("not not 7", "beet 9 1;"), 1);
        is("what isn't 0 holds", noteBy("5 and 0 - 3", "beet 9 1;"), 1);
        is("or behind and", noteBy("1 or 1 and 0", "beet 9 1;"), 1);
        is("and", noteBy("1 and 0", "beet 9 1;"), 0);
        is("or", noteBy("0 or 7", "beet 9 1;"), 1);
        is("=", noteBy("3 * (1 + 1 = 2)", "beet 9 1;"), 3);
        is("not ahead of and", noteBy("not 0 and 0", "beet 9 1;"), 0);
        is("kept to 15", noteBy("99", "beet 9 1;"), 15);
        is("kept to 0", noteBy("0 - 99", "beet 9 1;"), 0);
        is("size", noteBy("size", "beet 9 1;"), 9);
        is("hollow", noteBy("hollow", "beet 9 1;"), 1);
        is("kind", noteBy("kind", "turnip 9 1;"), 0);
        is("kind", noteBy("kind", "swede 9 1;"), 1);
        is("kind", noteBy("kind", "mangold 9 1;"), 2);
        is("kind", noteBy("kind", "beet 9 1;"), 3);
        is("weather", noteBy("weather", "weather 7 8;beet 9 1;"), 7);
        is("hung", noteBy("hung", "beet 9 1;"), 0);
        is("hung", noteBy("hung", "beet 9 1 3;"), 1);
        RootTower t = Texts.tower("note day;grows weather + soft;weather 3 9;beet 5 0;beet 9 0 1;lasts 99;");
        is("days", t.days(3), 3);
        is("day", t.root(0, 4), 3);
        is("grows 3, 9, 3", t.root(0, 1), 20);
        is("softer 2, 5, 2", t.root(1, 3), 9);
        is("take", t.take(1), 1);
        is("days", t.days(1), 4);
        is("grows, kept to 9", t.root(1, 1), 18);
        is("soft stays", t.root(1, 3), 9);
        is("less", Texts.tower("grows 0 - 5;beet 5 0;").towers(1, 9, 2), 5);
    }

    private static void counts() {
        promise("5 count");
        RootTower t = Texts.tower(FOUR);
        int[] due = {4, 3, 0, 2, 6, 3, 2, 7, 8, 0, 3200, 0, 0, 0, 0, 0, 0};
        for (int what = 0; what < due.length; what++) {
            is("count(" + what + ")", t.count(what), due[what]);
        }
        t.days(1);
        t.eat(1);
        t.hear(0, 1, false);
        t.hear(0, 16, false);
        t.take(3);
        t.feed(1, 2, 3, 4, 5);
        int[] then = {4, 2, 1, 6, 6, 3, 2, 5, 8, 2, 1 << 11 | 1 << 7, 2, 1, 20, 0, 1, 1};
        for (int what = 0; what < then.length; what++) {
            is("count(" + what + ") then", t.count(what), then[what]);
        }
        t.days(1);
        is("SOFT, so that none SOUNDS", t.count(7), 0);
        is("BELLS all the same", t.count(1), 2);
        none("17", () -> t.count(17));
        none("-1", () -> t.count(-1));
    }

    private static void roots() {
        promise("6 root");
        RootTower t = Texts.tower("swede 30 18 4;turnip 9 0;beet 1 0;mangold 60 2 0;lasts 3;");
        int[][] due = {{1, 30, 18, 0, 9, 4, 1, 2}, {0, 9, 0, 0, 11, -1, 0, 8}, {3, 1, 0, 0, 15, -1, 0, 0}, {2, 60, 2, 0, 0, 0, 1, 18}};
        for (int root = 0; root < 4; root++) {
            for (int what = 0; what < 8; what++) {
                is("root(" + root + ", " + what + ")", t.root(root, what), due[root][what]);
            }
        }
        t.eat(0);
        t.days(1);
        is("EATEN", t.root(0, 5), -2);
        is("EATEN", t.root(0, 6), 0);
        is("EATEN", t.root(0, 7), 0);
        is("EATEN, its NOTE", t.root(0, 4), 9);
        is("SOFT", t.root(3, 3), 3);
        is("SOFT", t.root(3, 6), 0);
        none("no such ROOT", () -> t.root(4, 0));
        none("no such ROOT", () -> t.root(-1, 0));
        none("no such what", () -> t.root(0, 8));
        none("no such what", () -> t.root(0, -1));
    }

    private static void plainReads() {
        RootTower t = Texts.tower(FOUR);
        promise("7 hook");
        is("hook", t.hook(0), 0);
        is("hook", t.hook(2), 2);
        is("hook", t.hook(5), -1);
        t.eat(0);
        is("of one EATEN", t.hook(0), -1);
        none("6", () -> t.hook(6));
        none("-1", () -> t.hook(-1));
        promise("8 tune");
        is("tune", t.tune(0), 11);
        is("tune", t.tune(2), 7);
        none("3", () -> t.tune(3));
        none("-1", () -> t.tune(-1));
        promise("9 change");
        is("change", t.change(0), 1);
        is("change", t.change(1), 2);
        none("2", () -> t.change(2));
        none("-1", () -> t.change(-1));
    }

    private static void days() {
        promise("10 days");
        RootTower t = Texts.tower("beet 50 0;swede 20 0 3;weather 0 4 5 9;lasts 99;");
        is("days", t.days(4), 4);
        is("grows below 5 alone", t.root(0, 1), 52);
        is("softer by 1 3 3 5", t.root(1, 3), 12);
        is("one that hangs doesn't grow", t.root(1, 1), 20);
        is("30", t.days(30), 34);
        is("60 at most", t.root(0, 1), 60);
        is("31", t.days(31), -1);
        is("0", t.days(0), -1);
        is("-1", t.days(-1), -1);
        is("far", t.days(Integer.MAX_VALUE), -1);
        is("far", t.days(Integer.MIN_VALUE), -1);
        for (int day = 64; day <= 994; day += 30) {
            is("days", t.days(30), day);
        }
        is("99 at most", t.root(1, 3), 99);
        is("above 999", t.days(6), -1);
        is("999", t.days(5), 999);
        is("above 999", t.days(1), -1);
        is("STATUS 1", t.count(15), 7);
        is("40 are kept", t.count(11), 35);
        is("without ROOTS", new RootTower().days(30), 30);
    }

    private static void hangAndTake() {
        promise("11 hang");
        RootTower t = Texts.tower(FOUR);
        is("one hangs there", t.hang(3, 0), -2);
        is("itself, too", t.hang(0, 0), -2);
        is("from THE GARDEN", t.hang(3, 5), -1);
        is("from a HOOK", t.hang(3, 4), 5);
        is("hook", t.hook(5), -1);
        is("hook", t.hook(4), 3);
        t.days(1);
        is("SOFTNESS stays", t.hang(3, 3), 4);
        is("SOFTNESS stays", t.root(3, 3), 2);
        t.eat(0);
        is("EATEN", t.hang(0, 5), -2);
        is("onto its HOOK", t.hang(1, 0), 1);
        none("no such ROOT", () -> t.hang(4, 5));
        none("no such ROOT", () -> t.hang(-1, 5));
        none("no such HOOK", () -> t.hang(3, 6));
        none("no such HOOK", () -> t.hang(3, -1));
        none("no such HOOK of one EATEN", () -> t.hang(0, 6));
        is("STATUS 1", t.count(15), 3);
        is("ACTS", t.count(11), 6);
        promise("12 take");
        is("take", t.take(3), 3);
        is("SOFTNESS stays", t.root(3, 3), 2);
        is("in THE GARDEN", t.take(3), -1);
        is("EATEN", t.take(0), -1);
        is("STATUS 1", t.count(15), 5);
        none("no such ROOT", () -> t.take(4));
    }

    private static void hollowAndEat() {
        promise("13 hollow");
        RootTower t = Texts.tower("beet 9 0;swede 50 15 0;");
        is("hollow", t.hollow(0, 2), 12);
        is("HOLLOW", t.root(0, 2), 2);
        is("too much", t.hollow(0, 7), -1);
        is("as much as it may be", t.hollow(0, 6), 15);
        is("no more", t.hollow(0, 1), -1);
        is("to 20", t.hollow(1, 6), -1);
        is("to 20", t.hollow(1, 5), 0);
        is("0", t.hollow(1, 0), -1);
        is("-1", t.hollow(1, -1), -1);
        t.days(1);
        is("it grew", t.hollow(0, 1), 15);
        is("STATUS 1", t.count(15), 5);
        none("no such ROOT", () -> t.hollow(2, 1));
        promise("14 eat");
        is("eat", t.eat(0), true);
        is("already", t.eat(0), false);
        is("EATEN isn't HOLLOWED", t.hollow(0, 1), -1);
        is("STATUS 1", t.count(15), 7);
        is("EATEN", t.count(9), 1);
        is("one that hangs", t.eat(1), true);
        is("BELLS", t.count(1), 0);
        t.days(5);
        is("doesn't grow", t.root(0, 1), 10);
        is("isn't softer", t.root(1, 3), 3);
        none("no such ROOT", () -> t.eat(2));
        none("no such ROOT", () -> t.eat(-1));
    }

    private static void alterAndUndo() {
        promise("15 alter");
        RootTower t = Texts.tower(FOUR);
        is("alter", t.alter(1, 21), 2);
        is("change", t.change(1), 21);
        is("to itself", t.alter(1, 21), 21);
        is("bits side by side", t.alter(1, 3), -1);
        is("32", t.alter(1, 32), -1);
        is("-1", t.alter(1, -1), -1);
        is("STATUS 1", t.count(15), 3);
        none("no such CHANGE", () -> t.alter(2, 1));
        none("no such CHANGE, ahead", () -> t.alter(-1, 3));
        none("no METHOD", () -> new RootTower().alter(0, 3));
        promise("16 undo");
        is("ACTS", t.count(11), 2);
        t.hang(3, 5);
        t.hollow(3, 3);
        t.take(0);
        t.days(7);
        t.eat(2);
        for (int left = 6; left >= 0; left--) {
            is("undo", t.undo(), left);
        }
        is("none", t.undo(), -1);
        is("no STATUS", t.count(15), 3);
        is("as it was", t.count(2), 0);
        is("as it was", t.root(3, 5), -1);
        is("as it was", t.root(3, 2), 0);
        is("as it was", t.root(3, 1), 9);
        is("as it was", t.root(0, 5), 0);
        is("as it was", t.root(2, 5), 2);
        is("as it was", t.change(1), 2);
        is("as it was", t.last(), 1);
        for (int i = 1; i <= 45; i++) {
            t.days(1);
            is("at most 40", t.count(11), Math.min(40, i));
        }
        for (int left = 39; left >= 0; left--) {
            t.undo();
        }
        is("the latest ones", t.count(2), 5);
        is("none", t.undo(), -1);
    }

    private static void courseOfDays() {
        promise("17 then");
        RootTower t = Texts.tower(FOUR);
        int[] due = {11, 10, 10, 10, 10, 9};
        for (int d = 0; d < due.length; d++) {
            is("then(3, " + d + ")", t.then(3, d), due[d]);
        }
        is("far", t.then(3, 60), 0);
        is("it hangs", t.then(0, 60), 11);
        RootTower e = Texts.tower("beet 9 0;note size + day + weather;weather 1 2;");
        e.eat(0);
        is("EATEN, too", e.then(0, 3), 14);
        none("no such ROOT, ahead", () -> t.then(4, 61));
        bad("61", () -> t.then(3, 61));
        bad("-1", () -> t.then(3, -1));
        promise("19 rings");
        is("rings", t.rings(0), true);
        is("rings", t.rings(1), true);
        is("rings", t.rings(2), false);
        bad("61", () -> t.rings(61));
        bad("-1", () -> t.rings(-1));
        is("one for several", Texts.tower("beet 9 0 1;tune 11 11;").rings(0), true);
        is("not in THE GARDEN", Texts.tower("beet 9 0;tune 11;").rings(0), false);
        is("without a TUNE", new RootTower().rings(60), true);
        promise("20 last");
        is("last", t.last(), 1);
        t.take(0);
        is("none", t.last(), -1);
        is("60", Texts.tower("beet 9 0 0;lasts 61;weather 0;tune 11;").last(), 60);
        is("a gap ahead of it", Texts.tower("beet 9 0 1;lasts 90;weather 0;tune 3;note day/7;").last(), 27);
        is("without a TUNE", new RootTower().last(), 60);
    }

    private static void going() {
        promise("18 goes");
        RootTower t = Texts.tower("turnip 9 0 5;swede 9 0 2;beet 9 0;mangold 9 0 0;lasts 60;weather 0;");
        t.hang(2, 1);
        t.days(10);
        t.take(1);
        t.take(0);
        t.days(2);
        t.hang(1, 4);
        t.hang(0, 2);
        is("goes", t.goes(2), 48);
        is("goes", t.goes(3), 48);
        is("goes", t.goes(1), 50);
        is("goes", t.goes(0), 50);
        is("60", Texts.tower("beet 9 0 0;lasts 60;weather 0;").goes(0), 60);
        is("none in 60", Texts.tower("beet 9 0 0;lasts 61;weather 0;").goes(0), -1);
        none("no such ROOT", () -> t.goes(4));
        promise("21 soft");
        is("of like ones the least", t.soft(), 2);
        is("none hangs", new RootTower().soft(), -1);
        is("none goes", Texts.tower("beet 9 0 0;lasts 61;weather 0;").soft(), -1);
        promise("22 order");
        is("order", t.order(0), 2);
        is("order", t.order(1), 3);
        is("order", t.order(2), 0);
        is("order", t.order(3), 1);
        t.eat(2);
        is("order", t.order(0), 3);
        none("not so many", () -> t.order(3));
        none("-1", () -> t.order(-1));
        RootTower n = Texts.tower("beet 9 0 3;beet 9 0 2;beet 9 0 1;lasts 61;weather 0;");
        n.take(2);
        n.days(1);
        n.hang(2, 5);
        n.take(1);
        is("goes", n.goes(0), 60);
        is("goes", n.goes(2), -1);
        is("order", n.order(0), 0);
        is("those that never GO behind", n.order(1), 2);
        n.hang(1, 0);
        is("order", n.order(1), 1);
        RootTower later = Texts.tower("beet 9 0;beet 9 0 1;lasts 61;weather 0;");
        later.days(1);
        later.hang(0, 3);
        is("goes", later.goes(1), 60);
        is("one that GOES on the 60th ahead of one that never GOES", later.order(0), 1);
        is("order", later.order(1), 0);
        is("soft", n.soft(), 0);
        n.days(60);
        n.days(30);
        n.days(30);
        is("already SOFT", n.goes(0), 0);
    }

    private static void rows() {
        promise("23 row");
        RootTower t = Texts.tower("turnip 9 0 5;swede 9 0 2;beet 9 0;mangold 9 0 0;method 1 2;");
        int[] due = {12, 102, 120, 210, 201, 21, 12, 102};
        for (int k = 0; k < due.length; k++) {
            is("row(" + k + ")", t.row(k), due[k]);
        }
        is("999", t.row(999), 210);
        bad("1000", () -> t.row(1000));
        bad("-1", () -> t.row(-1));
        bad("no METHOD", () -> new RootTower().row(0));
        RootTower six = Texts.tower("beet 9 0 0;beet 9 0 1;beet 9 0 2;beet 9 0 3;beet 9 0 4;beet 9 0 5;method 21 10 16;");
        is("six", six.row(0), 12345);
        is("six", six.row(1), 103254);
        is("six", six.row(2), 130524);
        is("six", six.row(3), 130542);
        is("six", six.row(4), 315024);
        six.eat(5);
        is("five: bit 4 does nothing", six.row(1), 10324);
        is("no BELLS", Texts.tower("method 1;").row(5), 0);
        promise("24 at");
        is("at", t.at(0, 0), 3);
        is("at", t.at(0, 1), 1);
        is("at", t.at(0, 2), 0);
        is("at", t.at(2, 0), 1);
        is("at", t.at(2, 1), 0);
        is("at", t.at(2, 2), 3);
        none("no such place", () -> t.at(0, 3));
        none("no such place", () -> t.at(0, -1));
        bad("ahead", () -> t.at(1000, 3));
        bad("ahead", () -> t.at(-1, 0));
        bad("no METHOD", () -> new RootTower().at(0, 0));
        none("no BELLS", () -> Texts.tower("method 1;").at(0, 0));
    }

    private static final String FIVE = "beet 9 0 0;beet 9 0 1;beet 9 0 2;beet 9 0 3;beet 9 0 4;";

    private static void lengths() {
        promise("25 length");
        RootTower t = Texts.tower(FOUR);
        is("length", t.length(), 6);
        is("no METHOD", new RootTower().length(), -1);
        is("no BELLS", Texts.tower("method 1 2;").length(), 1);
        is("one BELL", Texts.tower("method 1 2;beet 9 0 3;").length(), 1);
        is("plain hunt on five", Texts.tower(FIVE + "method 5 10;").length(), 10);
        is("0 alone", Texts.tower(FIVE + "method 0;").length(), 1);
        is("home within the METHOD", Texts.tower(FIVE + "method 1 1 2;").length(), 2);
        is("home within the METHOD, not ahead", Texts.tower(FIVE + "method 1 2 2 1 4;").length(), 4);
        promise("26 isTrue");
        is("isTrue", t.isTrue(), true);
        is("no METHOD", new RootTower().isTrue(), true);
        is("plain hunt", Texts.tower(FIVE + "method 5 10;").isTrue(), true);
        is("a row twice", Texts.tower(FIVE + "method 1 2 2 1 4;").isTrue(), false);
        is("a row that stays", Texts.tower(FIVE + "method 1 0 2;").isTrue(), false);
        is("behind LENGTH it is free", Texts.tower(FIVE + "method 1 1 2 2;").isTrue(), true);
        promise("27 longer");
        is("none", t.longer(), -1);
        t.alter(1, 1);
        is("length", t.length(), 2);
        is("longer", t.longer(), 2);
        t.alter(1, 2);
        t.alter(0, 2);
        is("the first that does", t.longer(), 1);
        is("no METHOD", new RootTower().longer(), -1);
        is("no BELLS", Texts.tower("method 1 2;").longer(), -1);
        // on two BELLS 1 0 isn't TRUE (01 10 10 01); 0 0 and 1 1 are: 1 and 2 long
        RootTower two = Texts.tower("beet 9 0 0;beet 9 0 1;method 1 0;");
        is("not TRUE", two.isTrue(), false);
        is("length", two.length(), 3);
        is("shorter, but TRUE", two.longer(), 101);
    }

    private static void fits() {
        promise("28 fit");
        RootTower t = Texts.tower(FOUR);
        is("fit", t.fit(-1), 0);
        is("fit", t.fit(0), 0);
        is("fit", t.fit(1), 1);
        is("fit", t.fit(2), 2);
        none("no such NOTE", () -> t.fit(3));
        none("-2", () -> t.fit(-2));
        t.eat(0);
        is("another", t.fit(0), 3);
        is("nothing more", t.fit(-1), 0);
        t.eat(2);
        is("it can't be", t.fit(-1), -2);
        is("it can't be", t.fit(2), -2);
        none("no such NOTE", () -> t.fit(3));
        // 12 is SIZE 7 more than HOLLOW, 11 is 9: 3 and 0, if the first one is for the first NOTE, else 1 and 1
        RootTower s = Texts.tower("turnip 10 0;turnip 8 0 3;beet 30 0;tune 12 11;lasts 1;");
        is("least all together", s.fit(-1), 2);
        is("fit", s.fit(0), 1);
        is("fit", s.fit(1), 0);
        s.days(1);
        is("SOFT all the same", s.fit(0), 1);
        RootTower two = Texts.tower("turnip 9 0;turnip 9 0;turnip 9 0;tune 11 11;");
        is("of like ones the first row", two.fit(0), 0);
        is("no two NOTES one ROOT", two.fit(1), 1);
        two.eat(0);
        two.eat(1);
        is("too few", two.fit(-1), -2);
        RootTower none = new RootTower();
        is("without a TUNE", none.fit(-1), 0);
        none("without a TUNE", () -> none.fit(0));
    }

    private static void keepersAndEarliest() {
        promise("29 keepers");
        RootTower t = Texts.tower(FOUR);
        is("keepers", t.keepers(), 7);
        t.hang(3, 5);
        is("the least", t.keepers(), 7);
        t.eat(0);
        is("another", t.keepers(), 14);
        t.eat(1);
        is("none", t.keepers(), -1);
        is("without a TUNE", new RootTower().keepers(), 0);
        is("one for several", Texts.tower("beet 9 0 1;beet 9 0 0;tune 11 11;").keepers(), 1);
        promise("30 earliest");
        is("earliest", Texts.tower(FOUR).earliest(), 0);
        is("grown", Texts.tower("beet 9 0;tune 8;weather 4 5;").earliest(), 9);
        is("never", Texts.tower("beet 9 0;tune 8;weather 5;").earliest(), -1);
        is("none at all", Texts.tower("tune 8;").earliest(), -1);
        is("60", Texts.tower("beet 9 0;tune 6;note day/10;").earliest(), 60);
        is("one for several", Texts.tower("beet 9 0;tune 11 11;").earliest(), 0);
        RootTower soft = Texts.tower("beet 9 0 2;tune 11;lasts 3;weather 4;");
        is("hanging", soft.earliest(), 0);
        soft.days(1);
        soft.take(0);
        is("SOFT in THE GARDEN", soft.earliest(), -1);
        soft.undo();
        soft.undo();
        soft.eat(0);
        is("EATEN", soft.earliest(), -1);
        is("without ROOTS or TUNE", new RootTower().earliest(), 0);
    }

    private static void hearing() {
        promise("31 hear");
        RootTower t = Texts.tower(FOUR);
        is("hear", t.hear(0, 11, true), 1);
        is("31", t.hear(31, 11, true), -1);
        is("-1", t.hear(-1, 11, true), -1);
        is("16", t.hear(0, 16, true), -1);
        is("-1", t.hear(0, -1, true), -1);
        is("STATUS 2", t.count(16), 4);
        promise("33 eaten");
        is("all but the one", t.eaten(0), 39);
        is("the first", t.eaten(1), 1);
        is("without", t.eaten(2), 1);
        promise("34 next");
        is("next", t.next(0), 1);
        is("next", t.next(1), 4);
        promise("33 eaten");
        is("hear", t.hear(1, 11, false), 2);
        is("one alone", t.eaten(0), 1);
        is("the first", t.eaten(1), 1);
        is("not without", t.eaten(2), 0);
        promise("34 next");
        is("of like ones the first", t.next(0), 0);
        is("one set", t.next(1), 1);
        promise("33 eaten");
        is("hear", t.hear(1, 3, true), 3);
        is("none", t.eaten(0), 0);
        is("none", t.eaten(1), -1);
        none("3", () -> t.eaten(3));
        none("-1", () -> t.eaten(-1));
        promise("34 next");
        is("none", t.next(0), -1);
        is("none", t.next(1), 0);
        none("2", () -> t.next(2));
        none("-1", () -> t.next(-1));
        promise("32 forget");
        t.forget();
        is("forget", t.count(12), 0);
        is("eaten", t.eaten(0), 40);
        t.eat(3);
        is("EATEN now", t.eaten(0), 30);
        promise("31 hear");
        for (int i = 1; i <= 8; i++) {
            is("hear", t.hear(30, 15, false), i);
        }
        is("there are 8", t.hear(0, 0, false), -1);
        is("STATUS 2", t.count(16), 5);
        RootTower telling = Texts.tower("turnip 9 0 0;beet 9 0 1;lasts 99;weather 0;note 5 + kind*(day=30);");
        is("30", telling.next(0), 30);
        is("two sets", telling.next(1), 2);
        promise("33 eaten");
        RootTower late = Texts.tower("beet 9 0 0;lasts 99;weather 0;");
        late.hear(9, 11, false);
        late.hear(8, 11, true);
        is("on the DAY itself", late.eaten(1), 9);
        is("one", late.eaten(0), 1);
        late.days(3);
        is("from now", late.eaten(1), 9);
        late.forget();
        late.hear(9, 11, true);
        is("9 at most", late.eaten(0), 0);
    }

    private static void games() {
        promise("35 game");
        RootTower t = Texts.tower(FOUR);
        is("game", t.game(0, 1, 0), 1);
        is("first", t.game(0, 1, 1), 0);
        none("no such what", () -> t.game(0, 1, 2));
        none("no such what, ahead", () -> t.game(0, 0, -1));
        none("no such ROOT", () -> t.game(4, 0, 0));
        none("no such ROOT", () -> t.game(0, -1, 0));
        bad("one", () -> t.game(1, 1, 0));
        bad("one doesn't hang", () -> t.game(0, 3, 0));
        bad("one doesn't hang", () -> t.game(3, 0, 0));
        // both have NOTE 11 of SIZE 8; HOLLOWED by 1 both have 12, and all is as near to the TUNE: 4 less 2, less 1, or 4 less 1 alone
        RootTower two = Texts.tower("beet 8 0 0;beet 8 0 1;tune 11 12;");
        is("one of them", two.game(0, 1, 0), 2);
        is("the other one first", two.game(0, 1, 1), 1);
        // who can't be HOLLOWED has 0 alone
        RootTower one = Texts.tower("beet 1 0 0;beet 8 0 1;tune 12;");
        is("0 alone", one.game(0, 1, 0), 2);
        is("first", one.game(0, 1, 1), 0);
        is("the other way", one.game(1, 0, 0), 2);
        RootTower only = Texts.tower("beet 1 0 0;beet 8 0 1;note 3 + 5*hollow;tune 8;");
        is("1 alone", only.game(0, 1, 0), 1);
        is("first", only.game(0, 1, 1), 1);
        is("first", only.game(1, 0, 1), 10);
        // of NOTES 0, 1 (TUNE 1): 3 or 4 less 1, so that all four would be alike but for the 2 that one NOTE costs
        RootTower like = Texts.tower("beet 8 0 0;beet 8 0 1;tune 1;note hollow;");
        is("unlike ones alone", like.game(0, 1, 0), 2);
        is("first", like.game(0, 1, 1), 1);
        RootTower all = Texts.tower("turnip 8 0 0;beet 8 0 1;tune 1 6;note hollow + 5*(kind=3);");
        is("all four", all.game(0, 1, 0), 4);
        is("first", all.game(0, 1, 1), 0);
        is("without a TUNE", Texts.tower("beet 8 0 0;beet 9 0 1;").game(0, 1, 1), 10);
    }

    private static void towers() {
        promise("36 towers");
        RootTower t = Texts.tower(FOUR);
        is("0 days", t.towers(5, 0, 0), 3);
        is("0 days", t.towers(5, 0, 1), 0);
        is("0 days", t.towers(5, 0, 2), 9);
        none("3", () -> t.towers(5, 61, 3));
        none("-1", () -> t.towers(5, 0, -1));
        bad("61", () -> t.towers(5, 61, 0));
        bad("-1", () -> t.towers(5, -1, 2));
        // by hand: seed 0 becomes 12345 (a DRAW 0), so that a sheep comes first, and 12345 * 1103515245 + 12345 wraps to -740551042
        RootTower sheep = Texts.tower("beet 9 0;");
        is("a sheep", sheep.towers(0, 1, 1), 1);
        is("a sheep", sheep.towers(0, 1, 2), 0);
        is("the state stays", sheep.count(9), 0);
        is("not one that hangs", Texts.tower("beet 9 0 1;").towers(0, 1, 1), 0);
        is("without ROOTS", new RootTower().towers(0, 60, 2), 0);
        // the WEATHER that is drawn behind them, by the same numbers written out once more
        RootTower rule = Texts.tower("beet 1 0;beet 1 0 5;grows weather;lasts 99;");
        for (int seed = -50; seed < 50; seed++) {
            is("one day, seed " + seed, rule.towers(seed, 1, 2), sizeAfterADay(seed));
        }
    }

    private static int sizeAfterADay(int seed) {
        int s = seed * 1103515245 + 12345;
        int event = (s >>> 16) % 32768 % 8;
        int chosen = -1;
        if (event < 2) {
            s = s * 1103515245 + 12345;
            chosen = (s >>> 16) % 32768 % 2;
        }
        s = s * 1103515245 + 12345;
        int weather = (s >>> 16) % 32768 % 10;
        return event == 0 && chosen == 0 ? 0 : 1 + weather;
    }

    private static void neededAndGrown() {
        promise("37 needed");
        RootTower t = Texts.tower(FOUR);
        is("needed", t.needed(3, 12), 2);
        is("needed", t.needed(3, 11), 0);
        is("needed", t.needed(3, 15), 8);
        is("less is none", t.needed(0, 7), -1);
        is("none", t.needed(2, 15), 15);
        none("no such NOTE", () -> t.needed(0, 16));
        none("no such NOTE", () -> t.needed(0, -1));
        none("no such ROOT", () -> t.needed(4, 1));
        t.eat(3);
        is("EATEN", t.needed(3, 11), -1);
        is("to 20 alone", Texts.tower("beet 60 0;").needed(0, 0), 0);
        is("to 20 alone", Texts.tower("beet 50 0;note hollow/2;").needed(0, 10), 20);
        is("to 20 alone", Texts.tower("beet 50 0;note hollow/3;").needed(0, 7), -1);
        promise("38 grown");
        RootTower g = Texts.tower(FOUR);
        is("grown", g.grown(3, 11), 0);
        is("grown", g.grown(3, 10), 1);
        is("grown", g.grown(3, 9), 5);
        is("none", g.grown(3, 12), -1);
        is("it hangs", g.grown(0, 11), -1);
        none("no such NOTE", () -> g.grown(3, 16));
        none("no such NOTE", () -> g.grown(0, -1));
        none("no such ROOT", () -> g.grown(4, 0));
        is("60", Texts.tower("beet 9 0;note day/60;").grown(0, 1), 60);
        is("61", Texts.tower("beet 9 0;note day/61;").grown(0, 1), -1);
        g.eat(3);
        is("EATEN", g.grown(3, 11), -1);
    }

    private static void scaleAndMouth() {
        promise("39 scale");
        RootTower t = Texts.tower("note size;beet 3 0 0;beet 4 0 1;beet 9 0 2;beet 8 0 3;beet 15 0 5;beet 5 0;lasts 5;");
        is("scale", t.scale(0), 2);
        is("of like ones the least", t.scale(1), 3);
        t.hang(5, 4);
        is("scale", t.scale(0), 3);
        is("scale", t.scale(1), 3);
        none("2", () -> t.scale(2));
        none("-1", () -> t.scale(-1));
        promise("40 mouth");
        is("THE TENOR", t.mouth(0), 0);
        is("THE TREBLE", t.mouth(1), 4);
        t.eat(0);
        is("THE TENOR", t.mouth(0), 1);
        none("2", () -> t.mouth(2));
        none("-1", () -> t.mouth(-1));
        RootTower like = Texts.tower("beet 9 0;beet 9 0 4;beet 9 0 1;");
        is("of like ones the least", like.mouth(0), 1);
        is("of like ones the least", like.mouth(1), 1);
        t.days(2);
        is("SOFT", t.mouth(1), -1);
        is("SOFT", t.scale(0), 0);
        is("SOFT", t.scale(1), -1);
    }

    private static void leadsAndMeets() {
        RootTower t = Texts.tower(FOUR);
        promise("41 leads");
        is("leads", t.leads(0), 2);
        is("leads", t.leads(1), 2);
        is("leads", t.leads(2), 2);
        is("it doesn't hang", t.leads(3), 0);
        none("no such ROOT", () -> t.leads(4));
        is("no METHOD", Texts.tower("beet 9 0 1;").leads(0), 0);
        is("ROUNDS alone", Texts.tower("beet 9 0 1;method 1;").leads(0), 1);
        promise("42 meets");
        is("meets", t.meets(0, 1), 4);
        is("meets", t.meets(1, 0), 4);
        is("both are one", t.meets(1, 1), 0);
        is("one doesn't hang", t.meets(0, 3), 0);
        is("one doesn't hang", t.meets(3, 0), 0);
        none("no such ROOT", () -> t.meets(4, 0));
        none("no such ROOT", () -> t.meets(0, 4));
        is("no METHOD", Texts.tower("beet 9 0 1;beet 9 0 2;").meets(0, 1), 0);
        is("ROUNDS alone", Texts.tower("beet 9 0 1;beet 9 0 5;method 0;").meets(0, 1), 1);
    }

    private static void withoutOftenSpare() {
        RootTower t = Texts.tower("beet 9 0 0;turnip 9 0 1;swede 9 0 2;beet 11 0;grows 0;lasts 12;weather 4;tune 11;");
        t.take(2);
        t.days(2);
        t.hang(2, 4);
        t.hang(3, 5);
        promise("43 without");
        is("last", t.last(), 3);
        is("without", t.without(2), 1);
        is("without", t.without(0), 3);
        is("without", t.without(3), 3);
        t.eat(0);
        t.eat(1);
        is("without", t.without(2), -1);
        is("EATEN", t.without(0), 3);
        t.undo();
        t.undo();
        none("no such ROOT", () -> t.without(4));
        is("without a TUNE", Texts.tower("beet 9 0 0;").without(0), 60);
        promise("44 often");
        is("often", t.often(11), 3);
        is("often", t.often(10), 3);
        is("never", t.often(3), 0);
        is("60", Texts.tower("beet 9 0 0;lasts 61;weather 0;").often(11), 60);
        none("no such NOTE", () -> t.often(16));
        none("no such NOTE", () -> t.often(-1));
        promise("45 spare");
        is("spare", t.spare(), 0b1111);
        t.eat(0);
        t.eat(1);
        is("spare", t.spare(), 0b1000);
        t.take(3);
        is("none", t.spare(), 0);
        is("without a TUNE all that SOUND", Texts.tower("beet 9 0;beet 9 0 1;").spare(), 2);
    }

    private static void images() {
        promise("46 image, 47 restore");
        RootTower t = Texts.tower(FOUR);
        is("none", t.restore(), false);
        t.days(1);
        t.hear(3, 4, true);
        t.image();
        t.hollow(0, 1);
        t.take(1);
        t.hang(3, 1);
        t.eat(2);
        t.alter(0, 0);
        t.days(3);
        t.hear(2, 2, false);
        t.days(0);
        t.feed(1, 1, 1, 1, 1);
        is("restore", t.restore(), true);
        is("DAY", t.count(2), 1);
        is("ACTS", t.count(11), 1);
        is("HEARD", t.count(12), 1);
        is("ROOTS", t.root(0, 2), 2);
        is("SOFTNESS", t.root(0, 3), 2);
        is("where they are", t.root(1, 5), 1);
        is("where they are", t.root(2, 5), 2);
        is("where they are", t.root(3, 5), -1);
        is("SIZE", t.root(3, 1), 10);
        is("the METHOD", t.change(0), 1);
        is("not STATUS", t.count(15), 1);
        is("not the tape", t.count(13), 20);
        t.undo();
        t.forget();
        is("again", t.restore(), true);
        is("HEARD", t.count(12), 1);
        is("undo", t.undo(), 0);
        is("DAY", t.count(2), 0);
        t.image();
        t.restore();
        is("in place of another one", t.count(11), 0);
        RootTower ring = Texts.tower("beet 9 0 1;lasts 99;weather 0;");
        for (int i = 0; i < 45; i++) {
            ring.days(1);
        }
        ring.hear(4, 11, true);
        ring.image();
        ring.days(3);
        ring.forget();
        ring.hear(0, 11, false);
        Texts.read(ring, "a text with a fault");
        is("all stays", ring.restore(), true);
        is("what is HEARD", ring.eaten(1), 5);
        is("DAY", ring.count(2), 45);
        for (int left = 39; left >= 0; left--) {
            is("undo", ring.undo(), left);
        }
        is("the latest ones", ring.count(2), 5);
        ring.restore();
        ring.image();
        Texts.read(ring, "beet 9 0 1;");
        ring.days(1);
        is("ACTS of the new one alone", ring.undo(), 0);
        is("undo", t.undo(), -1);
    }
}
