/** The bounds of questions, sentence by sentence of the document: nothing of a thing and all of it, the least and the most. */
public final class QuestionEdgesTest extends Checks {
    private static final String SIX = "beet 9 0 0;beet 9 0 1;beet 9 0 2;beet 9 0 3;beet 9 0 4;beet 9 0 5;";
    /** A BELL that lasts beyond 60 DAYS, by a NOTE that a rule gives. */
    private static final String LONG = "lasts 99;weather 0;beet 9 0 0;";

    public static void main(String[] args) {
        then();
        goes();
        rings();
        last();
        firstSoft();
        order();
        rows();
        changesBeyondTheBells();
        at();
        length();
        truth();
        longer();
        fit();
        fitOfLikeOnes();
        keepers();
        earliest();
        hear();
        eaten();
        eatenOnTheDay();
        next();
        gameIsRefused();
        game();
        gameGains();
        towersAreRefused();
        towers();
        towersSheepAndFrost();
        needed();
        grown();
        scale();
        mouth();
        leads();
        meets();
        without();
        often();
        spare();
        end("QuestionEdgesTest");
    }

    private static void then() {
        quote("THEN: the NOTE of a ROOT in so many DAYS (0 to 60).");
        RootTower t = Texts.tower("note day/4;beet 9 0;swede 9 0 0;turnip 9 0;");
        is("0", t.then(0, 0), 0);
        is("60", t.then(0, 60), 15);
        is("59", t.then(1, 59), 14);
        quote("THEN (of one that is EATEN, too).");
        t.eat(2);
        is("EATEN", t.then(2, 60), 15);
        RootTower still = Texts.tower("beet 9 0;swede 9 0 0;note size + soft;");
        still.eat(0);
        still.eat(1);
        is("EATEN it doesn't grow", still.then(0, 60), 9);
        is("EATEN it isn't softer", still.then(1, 60), 9);
        quote("IllegalArgumentException (behind NoSuchElementException): not 0 to 60.");
        badOf("days", days -> t.then(0, days), -1, 61);
        badOf("days of one EATEN", days -> t.then(2, days), -1, 61);
        noneOf("ROOT", root -> t.then(root, 0), -1, 3);
        noneOf("ROOT, ahead", root -> t.then(root, 61), -1, 3);
        is("nothing went by", t.count(2), 0);
    }

    private static void goes() {
        quote("GOES: in how many DAYS (0 to 60) a ROOT that hangs is SOFT first; none.");
        is("60", Texts.tower("beet 9 0 0;weather 0;lasts 60;").goes(0), 60);
        is("61", Texts.tower("beet 9 0 0;weather 0;lasts 61;").goes(0), -1);
        is("1", Texts.tower("beet 9 0 0;weather 9;lasts 5;").goes(0), 1);
        is("2", Texts.tower("beet 9 0 0;weather 9;lasts 6;").goes(0), 2);
        RootTower t = Texts.tower("beet 9 0 0;swede 9 0;turnip 9 0 1;weather 9;lasts 5;");
        t.days(1);
        is("it is", t.goes(0), 0);
        t.days(5);
        is("it is", t.goes(0), 0);
        quote("GOES; NONE: none, it doesn't hang.");
        is("in THE GARDEN", t.goes(1), -1);
        t.take(0);
        is("SOFT in THE GARDEN", t.goes(0), -1);
        t.eat(2);
        is("EATEN", t.goes(2), -1);
        noneOf("ROOT", t::goes, -1, 3);
    }

    private static void rings() {
        quote("RINGS: whether THE TUNE can be rung in so many DAYS (0 to 60)");
        RootTower t = Texts.tower(LONG + "note day/4;tune 15;");
        is("59", t.rings(59), false);
        is("60", t.rings(60), true);
        is("0", t.rings(0), false);
        is("0", Texts.tower(LONG + "tune 11;").rings(0), true);
        quote("RINGS. IllegalArgumentException: not 0 to 60.");
        badOf("rings", days -> t.rings(days) ? 1 : 0, -1, 61);
        badOf("without a TUNE", days -> new RootTower().rings(days) ? 1 : 0, -1, 61);
        quote("there is a ROOT that SOUNDS, and has it then (one for several)");
        is("one for eight", Texts.tower(LONG + "tune 11 11 11 11 11 11 11 11;").rings(0), true);
        is("one of two", Texts.tower(LONG + "tune 11 10;").rings(0), false);
        is("in THE GARDEN", Texts.tower("beet 9 0;tune 11;").rings(0), false);
        is("SOFT on DAY 1", Texts.tower("beet 9 0 0;tune 11;lasts 1;").rings(1), false);
        is("not ahead of that", Texts.tower("beet 9 0 0;tune 11;lasts 1;").rings(0), true);
        is("no NOTE is needed", Texts.tower("beet 9 0;").rings(60), true);
    }

    private static void last() {
        quote("THE LAST DAY: the most DAYS (0 to 60) in which it RINGS; none.");
        is("60", Texts.tower(LONG + "tune 11;").last(), 60);
        is("61 is not told", Texts.tower("beet 9 0 0;weather 0;lasts 62;tune 11;").last(), 60);
        is("60", Texts.tower("beet 9 0 0;weather 0;lasts 61;tune 11;").last(), 60);
        is("59", Texts.tower("beet 9 0 0;weather 0;lasts 60;tune 11;").last(), 59);
        is("0", Texts.tower("beet 9 0 0;lasts 1;tune 11;").last(), 0);
        is("none", Texts.tower(LONG + "tune 12;").last(), -1);
        is("the 60th alone", Texts.tower(LONG + "note day/4;tune 15;").last(), 60);
        is("not the first row of DAYS", Texts.tower(LONG + "note (day=0)+(day=40);tune 1;").last(), 40);
        is("only DAY 0", Texts.tower(LONG + "note day=0;tune 1;").last(), 0);
        is("without a TUNE", new RootTower().last(), 60);
    }

    private static void firstSoft() {
        quote("FIRST SOFT: which ROOT that hangs GOES first (of like ones the least); none.");
        is("none hangs", Texts.tower("beet 9 0;").soft(), -1);
        is("none GOES", Texts.tower("beet 9 0 0;weather 0;lasts 61;").soft(), -1);
        is("on the 60th", Texts.tower("beet 9 0 0;weather 0;lasts 60;").soft(), 0);
        is("of like ones the least ROOT, not HOOK", Texts.tower("beet 9 0 5;beet 9 0 0;").soft(), 0);
        RootTower t = Texts.tower("beet 9 0;beet 9 0 4;beet 9 0 3;weather 0;lasts 9;");
        t.days(1);
        t.hang(0, 0);
        is("the one that is softer", t.soft(), 1);
        t.eat(1);
        is("of those that hang", t.soft(), 2);
        t.days(8);
        is("already", t.soft(), 2);
        t.days(1);
        is("both are: the least", t.soft(), 0);
    }

    private static void order() {
        quote("(of like ones the least; those that never GO behind, by number): the i-th one");
        RootTower like = Texts.tower("beet 9 0 5;beet 9 0 4;beet 9 0 3;beet 9 0 2;beet 9 0 1;beet 9 0 0;");
        row("like ones", like::order, 0, 1, 2, 3, 4, 5);
        RootTower never = Texts.tower("beet 9 0 5;beet 9 0;beet 9 0 3;beet 9 0 2;weather 0;lasts 62;");
        row("none GOES", never::order, 0, 2, 3);
        never.days(1);
        never.hang(1, 0);
        row("none GOES", never::order, 0, 1, 2, 3);
        never.take(2);
        never.days(1);
        never.hang(2, 1);
        row("0 and 3 GO in 60", never::order, 0, 3, 1, 2);
        quote("THE ORDER: the i-th ROOT. NoSuchElementException: there is none.");
        noneOf("order", never::order, -1, 4, 5);
        never.eat(3);
        row("one less", never::order, 0, 1, 2);
        noneOf("order", never::order, -1, 3);
        noneOf("none hangs", Texts.tower("beet 9 0;")::order, -1, 0);
        noneOf("no ROOTS", new RootTower()::order, -1, 0);
    }

    private static void rows() {
        quote("the row behind so many CHANGES (0 to 999), as a number (each digit 10 times what is behind it)");
        RootTower t = Texts.tower(SIX + "method 21 10;");
        row("row", t::row, 12345, 103254, 130524, 315042);
        is("plain hunt on six is 12 long: 999 is as 3", t.row(999), 315042);
        is("998", t.row(998), 130524);
        quote("IllegalArgumentException: not 0 to 999, no METHOD.");
        badOf("row", t::row, -1, 1000);
        badOf("no METHOD", Texts.tower(SIX)::row, -1, 0, 1, 999);
        badOf("no METHOD, no BELLS", new RootTower()::row, 0);
        quote("BELLS are ROOTS that hang, by HOOKS (from HOOK 0 on)");
        RootTower hooks = Texts.tower("turnip 9 0 5;turnip 9 0 3;turnip 9 0 0;turnip 9 0;method 0;");
        row("at", place -> hooks.at(0, place), 2, 1, 0);
        is("three", hooks.row(0), 12);
        hooks.hang(3, 1);
        row("at", place -> hooks.at(0, place), 2, 3, 1, 0);
        is("four", hooks.row(0), 123);
        is("SOFT ones, too", softOnes(), 1);
    }

    private static int softOnes() {
        RootTower t = Texts.tower("turnip 9 0 5;turnip 9 0 3;lasts 1;method 0;");
        t.days(1);
        return t.row(5);
    }

    private static void changesBeyondTheBells() {
        quote("(if there are both, else nothing)");
        String[] bells = {"", "beet 9 0 5;", "beet 9 0 5;beet 9 0 4;", "beet 9 0 5;beet 9 0 4;beet 9 0 3;",
            "beet 9 0 5;beet 9 0 4;beet 9 0 3;beet 9 0 2;", "beet 9 0 5;beet 9 0 4;beet 9 0 3;beet 9 0 2;beet 9 0 1;", SIX};
        int[][] due = {
            {0, 0, 0, 0, 0}, {0, 0, 0, 0, 0}, {10, 1, 1, 1, 1}, {102, 21, 12, 12, 12}, {1023, 213, 132, 123, 123},
            {10234, 2134, 1324, 1243, 1234}, {102345, 21345, 13245, 12435, 12354}};
        for (int n = 0; n < bells.length; n++) {
            for (int bit = 0; bit < 5; bit++) {
                RootTower t = Texts.tower(bells[n] + "method " + (1 << bit) + ";");
                is(n + " BELLS, bit " + bit, t.row(1), due[n][bit]);
                is("back again", t.row(2), t.row(0));
            }
            is("0 changes nothing", Texts.tower(bells[n] + "method 0;").row(1), Texts.tower(bells[n] + "method 0;").row(0));
        }
        is("bits 0, 2, 4", Texts.tower(SIX + "method 21;").row(1), 103254);
        is("bits 1, 3", Texts.tower(SIX + "method 10;").row(1), 21435);
    }

    private static void at() {
        quote("TOLD AT: the ROOT. NoSuchElementException: no such place in the row.");
        RootTower t = Texts.tower(SIX + "method 21 10;");
        row("at 3", place -> t.at(3, place), 3, 1, 5, 0, 4, 2);
        row("at 999", place -> t.at(999, place), 3, 1, 5, 0, 4, 2);
        row("at 0", place -> t.at(0, place), 0, 1, 2, 3, 4, 5);
        noneOf("place", place -> t.at(0, place), -1, 6);
        noneOf("place", place -> t.at(999, place), -1, 6);
        t.eat(5);
        noneOf("place", place -> t.at(0, place), -1, 5);
        noneOf("no BELLS", place -> Texts.tower("method 1;").at(0, place), -1, 0);
        quote("IllegalArgumentException (ahead): as in row().");
        badOf("changes", changes -> t.at(changes, 0), -1, 1000);
        badOf("ahead", changes -> t.at(changes, 5), -1, 1000);
        badOf("no METHOD", changes -> Texts.tower(SIX).at(changes, 0), -1, 0, 999, 1000);
        badOf("no METHOD, ahead", changes -> Texts.tower(SIX).at(changes, 6), 0);
    }

    private static int lengthOf(String text) {
        return Texts.tower(text).length();
    }

    private static void length() {
        quote("LENGTH: behind how many CHANGES (1 on) it is ROUNDS again first.");
        is("no BELLS", lengthOf("method 1 2 4;"), 1);
        is("one BELL", lengthOf("beet 9 0 3;method 1 2 4;"), 1);
        is("two BELLS", lengthOf("beet 9 0 3;beet 9 0 2;method 1;"), 2);
        is("two BELLS, nothing changes", lengthOf("beet 9 0 3;beet 9 0 2;method 2;"), 1);
        is("0 first", lengthOf(SIX + "method 0 1 2;"), 1);
        is("plain hunt", lengthOf(SIX + "method 21 10;"), 12);
        is("as the rows tell", lengthOf(SIX + "method 21 10 21 10 21 10 21 10 21 10 21 2;"), rungTill("21 10 21 10 21 10 21 10 21 10 21 2"));
        is("12 CHANGES by an order of 6", lengthOf(SIX + "method 1 2 4 0 0 0 0 0 0 0 0 8;"), 60);
        is("12 CHANGES by an order of 6", lengthOf(SIX + "method 2 0 0 0 0 0 0 0 0 0 0 20;"), 72);
        is("within the METHOD", lengthOf(SIX + "method 1 2 2 1 4 8 16 1 2 4 8 16;"), 4);
        quote("LENGTH; NONE: no METHOD.");
        is("no METHOD", lengthOf(SIX), -1);
        is("no METHOD, no BELLS", new RootTower().length(), -1);
    }

    /** LENGTH once more, by the rows as they are told. */
    private static int rungTill(String method) {
        RootTower t = Texts.tower(SIX + "method " + method + ";");
        for (int k = 1; k <= 100; k++) {
            if (t.row(k) == 12345) {
                return k;
            }
        }
        return -1;
    }

    private static boolean trueOf(String text) {
        return Texts.tower(text).isTrue();
    }

    private static void truth() {
        quote("TRUE is it, if no row comes twice ahead of that.");
        is("no BELLS", trueOf("method 1 2 4;"), true);
        is("one BELL", trueOf("beet 9 0 3;method 1;"), true);
        is("0 alone", trueOf(SIX + "method 0;"), true);
        is("1 and 0 on two", trueOf("beet 9 0 3;beet 9 0 2;method 1 0;"), false);
        is("there and back", trueOf(SIX + "method 1 2 2 1;"), false);
        is("the last row like the one ahead of it", trueOf(SIX + "method 1 2 0;"), false);
        is("what comes behind LENGTH is free", trueOf(SIX + "method 1 1 2 2;"), true);
        is("plain hunt", trueOf(SIX + "method 21 10;"), true);
        is("72 rows, many twice", trueOf(SIX + "method 2 0 0 0 0 0 0 0 0 0 0 20;"), false);
        is("a row twice far apart", trueOf("beet 9 0 3;beet 9 0 2;beet 9 0 1;method 1 2 1 2 1 1 2 1 2 1;"), false);
        quote("Whether it is TRUE (without a METHOD it is).");
        is("no METHOD", trueOf(SIX), true);
        is("no METHOD, no BELLS", new RootTower().isTrue(), true);
    }

    private static int longerOf(String text) {
        return Texts.tower(text).longer();
    }

    private static void longer() {
        String two = "beet 9 0 3;beet 9 0 2;";
        quote("if that is more than LENGTH as it is, or it isn't TRUE now");
        is("1 to 0 would be shorter", longerOf(two + "method 1;"), -1);
        is("0 to 1", longerOf(two + "method 0;"), 1);
        is("as long, and TRUE now", longerOf(two + "method 1 1;"), -1);
        is("not TRUE now, shorter ones are", longerOf(two + "method 1 0;"), 101);
        // what isn't TRUE begins with a CHANGE that does something: 0 in its place is 1 long, and TRUE
        is("not TRUE now, LENGTH 1 alone is", longerOf(two + "method 1 0 0;"), 101);
        is("no BELLS: TRUE, and 1 long", longerOf("method 1 2;"), -1);
        is("one BELL", longerOf("beet 9 0 0;method 1 2;"), -1);
        quote("of like ones the least i, then the least number: 100 by i and the number; none");
        // 4 and 5, 8 .. do on two BELLS what 0 and 1 do: the least numbers are told
        is("the least number", longerOf(two + "method 4;"), 1);
        is("another number than it is", longerOf(two + "method 5;"), -1);
        is("the least i", longerOf("beet 9 0 3;beet 9 0 2;beet 9 0 1;method 1 1;"), 2);
        is("bits next to each other are no CHANGE, though 3 would be 3 long", longerOf("beet 9 0 3;beet 9 0 2;beet 9 0 1;method 1;"), -1);
        is("the last CHANGE", longerOf("beet 9 0 3;beet 9 0 2;beet 9 0 1;method 1 2 1 2 1 1;"), 502);
        quote("LONGER; NONE: none.");
        is("no METHOD", longerOf(SIX), -1);
        is("no METHOD, no BELLS", new RootTower().longer(), -1);
        RootTower t = Texts.tower(SIX + "method 21 21;");
        is("longer", t.longer() >= 0, true);
        is("the METHOD stays", t.change(0), 21);
        is("the METHOD stays", t.length(), 2);
    }

    private static void fit() {
        quote("FIT: how much (i NONE), the ROOT for the i-th NOTE; -2: it can't be. NoSuchElementException: no such NOTE.");
        RootTower none = new RootTower();
        is("without a TUNE", none.fit(-1), 0);
        noneOf("without a TUNE", none::fit, -2, 0);
        RootTower eight = Texts.tower("note size;tune 1 2 3 4 5 6 7 8;beet 8 0;beet 7 0;beet 6 0;beet 5 0;beet 4 0;beet 3 0;beet 2 0;beet 1 0;");
        is("eight", eight.fit(-1), 0);
        row("fit", eight::fit, 7, 6, 5, 4, 3, 2, 1, 0);
        noneOf("fit", eight::fit, -2, 8);
        eight.eat(0);
        is("it can't be", eight.fit(-1), -2);
        row("it can't be", eight::fit, -2, -2, -2, -2, -2, -2, -2, -2);
        noneOf("it can't be, and no such NOTE", eight::fit, -2, 8);
        quote("(0 on; HOLLOW to 20, and less than SIZE)");
        is("by 0", Texts.tower("note hollow;beet 60 15;tune 15;").fit(-1), 0);
        is("by 15", Texts.tower("note hollow;beet 60 0;tune 15;").fit(-1), 15);
        is("to 20", Texts.tower("note hollow - 5;beet 60 0;tune 15;").fit(-1), 20);
        is("to 20", Texts.tower("note hollow - 5;beet 21 0;tune 15;").fit(-1), 20);
        is("to 21", Texts.tower("note hollow - 6;beet 60 0;tune 15;").fit(-1), -2);
        is("less than SIZE", Texts.tower("note hollow - 5;beet 20 0;tune 15;").fit(-1), -2);
        is("less than SIZE", Texts.tower("note hollow - 5;beet 20 0;tune 14;").fit(-1), 19);
        is("SIZE 1", Texts.tower("note hollow;beet 1 0;tune 1;").fit(-1), -2);
        is("never less HOLLOW", Texts.tower("note hollow;beet 9 3;tune 2;").fit(-1), -2);
        quote("a ROOT that isn't EATEN, no two NOTES one ROOT");
        is("too few", Texts.tower("beet 9 0;tune 11 11;").fit(-1), -2);
        is("as many", Texts.tower("beet 9 0;beet 9 0 3;tune 11 11;").fit(-1), 0);
        is("no ROOTS", Texts.tower("tune 0;").fit(0), -2);
        RootTower soft = Texts.tower("beet 9 0 0;tune 11;lasts 1;");
        soft.days(1);
        is("SOFT", soft.fit(0), 0);
    }

    private static void fitOfLikeOnes() {
        quote("so that it is least, all together: how much; of like ones the first row (by NOTES of THE TUNE: which ROOT)");
        RootTower two = Texts.tower("note hollow;beet 9 0;beet 9 0;beet 9 1;tune 1 2;");
        is("2", two.fit(-1), 2);
        row("0 for 1 by 1, 2 for 2 by 1", two::fit, 0, 2);
        RootTower swap = Texts.tower("note hollow;beet 9 0;beet 9 0;tune 3 1;");
        row("the first row", swap::fit, 0, 1);
        RootTower greedy = Texts.tower("note hollow;beet 9 1;beet 9 0;tune 1 2;");
        is("2 either way: 0 and 2, 1 and 1", greedy.fit(-1), 2);
        row("the first row", greedy::fit, 0, 1);
        RootTower forced = Texts.tower("note hollow;beet 9 0;beet 9 2;tune 1 2;");
        row("the one that can", forced::fit, 0, 1);
        RootTower other = Texts.tower("note hollow;beet 9 0;beet 9 2;tune 2 1;");
        row("the one that can", other::fit, 1, 0);
        RootTower ten = Texts.tower("note hollow;" + "beet 30 0;".repeat(10) + "tune 15 15 15 15 15 15 15 15;");
        is("eight times 15", ten.fit(-1), 120);
        row("the first eight", ten::fit, 0, 1, 2, 3, 4, 5, 6, 7);
        ten.eat(0);
        ten.eat(1);
        row("the last eight", ten::fit, 2, 3, 4, 5, 6, 7, 8, 9);
        is("no more can be spared", ten.eat(9), true);
        is("no more can be spared", ten.fit(-1), -2);
        RootTower first = Texts.tower("note size;tune 3 8;beet 9 3;" + "beet 15 0;".repeat(7) + "beet 3 0;beet 8 0;method 0;");
        row("the last two of ten", first::fit, 8, 9);
        RootTower last = Texts.tower("note size;grows 0;tune 7 12;beet 12 0;" + "beet 20 0;".repeat(8) + "beet 5 0;");
        last.days(12);
        is("none of ten has the first NOTE", last.fit(-1), -2);
    }

    private static void keepers() {
        quote("KEEPERS: the fewest ROOTS that SOUND by which THE TUNE RINGS now: of as few the least as bits; none.");
        is("without a TUNE", Texts.tower(SIX).keepers(), 0);
        is("no ROOTS", new RootTower().keepers(), 0);
        is("no ROOTS", Texts.tower("tune 0;").keepers(), -1);
        is("one for eight", Texts.tower(SIX + "tune 11 11 11 11 11 11 11 11;").keepers(), 1);
        is("one is missing", Texts.tower(SIX + "tune 11 10;").keepers(), -1);
        is("of THE GARDEN none", Texts.tower("beet 9 0;beet 9 0 3;tune 11;").keepers(), 2);
        is("all six", Texts.tower("note size;beet 1 0 0;beet 2 0 1;beet 3 0 2;beet 4 0 3;beet 5 0 4;beet 6 0 5;tune 6 5 4 3 2 1 1 6;").keepers(), 63);
        is("the least as bits", Texts.tower("note size;beet 1 0 0;beet 2 0 1;beet 2 0 2;beet 1 0 3;tune 2 1;").keepers(), 3);
        RootTower t = Texts.tower("beet 9 0 0;beet 9 0;tune 11;lasts 3;");
        t.days(1);
        is("SOFT", t.keepers(), -1);
        t.hang(1, 1);
        is("another NOTE", t.keepers(), -1);
    }

    private static void earliest() {
        quote("THE EARLIEST: in how many DAYS (0 to 60) FIRST all NOTES of THE TUNE are there");
        is("0", Texts.tower("beet 9 0;tune 11;").earliest(), 0);
        is("60", Texts.tower("beet 9 0;note day/4;tune 15;").earliest(), 60);
        is("61", Texts.tower("beet 9 0;note day/61;tune 1;").earliest(), -1);
        is("without a TUNE", Texts.tower("beet 9 0;").earliest(), 0);
        is("no ROOTS", Texts.tower("tune 0;").earliest(), -1);
        is("all at once", Texts.tower("beet 9 0;beet 12 0 3;tune 9 10;lasts 99;weather 0;note size;").earliest(), -1);
        is("all at once", Texts.tower("beet 9 0;beet 12 0 3;tune 11 12;lasts 99;weather 0;note size;").earliest(), 2);
        quote("in ROOTS that aren't EATEN, hanging or not, and not SOFT (one for several); none");
        is("one for several", Texts.tower("beet 9 0;tune 11 11 11;").earliest(), 0);
        RootTower t = Texts.tower("beet 9 0 0;beet 10 0 1;tune 11;lasts 3;grows 0;");
        is("hanging", t.earliest(), 0);
        t.days(1);
        is("SOFT", t.earliest(), -1);
        t.take(0);
        is("SOFT in THE GARDEN", t.earliest(), -1);
        t.undo();
        t.undo();
        t.eat(0);
        is("EATEN", t.earliest(), -1);
        is("it goes soft ahead of it", Texts.tower("beet 9 0 0;note day;tune 2;lasts 2;weather 0;").earliest(), -1);
        is("it goes soft behind it", Texts.tower("beet 9 0 0;note day;tune 1;lasts 2;weather 0;").earliest(), 1);
    }

    private static void hear() {
        quote("HEARD: how much is. NONE (STATUS 2): there are 8, not 0 to 30, no such NOTE.");
        RootTower t = Texts.tower("beet 9 0 0;");
        int[][] wrong = {{-1, 0}, {31, 0}, {0, -1}, {0, 16}, {Integer.MIN_VALUE, 0}, {Integer.MAX_VALUE, 0}, {0, Integer.MIN_VALUE}, {0, Integer.MAX_VALUE}, {31, 16}};
        for (int i = 0; i < wrong.length; i++) {
            is("hear", t.hear(wrong[i][0], wrong[i][1], true), -1);
            is("STATUS 2", t.count(16), i + 1);
        }
        is("none", t.count(12), 0);
        is("0, 0", t.hear(0, 0, false), 1);
        is("30, 15", t.hear(30, 15, false), 2);
        is("the same again", t.hear(30, 15, false), 3);
        is("30, 0", t.hear(30, 0, false), 4);
        is("0, 15", t.hear(0, 15, false), 5);
        is("the contrary", t.hear(0, 15, true), 6);
        is("seven", t.hear(0, 14, false), 7);
        is("eight", t.hear(0, 14, false), 8);
        is("there are 8", t.hear(0, 14, false), -1);
        is("there are 8, and no such NOTE", t.hear(0, 16, false), -1);
        is("eight", t.count(12), 8);
        is("STATUS 2", t.count(16), wrong.length + 2);
        is("no ACT", t.count(11), 0);
        is("no STATUS 1", t.count(15), 0);
        quote("All that is HEARD is forgotten.");
        t.forget();
        is("none", t.count(12), 0);
        is("none of it counts", t.eaten(0), 10);
        t.forget();
        is("again", t.hear(0, 11, true), 1);
        quote("HEARD (at most 8)");
        RootTower last = Texts.tower("beet 9 0 0;lasts 99;weather 0;");
        for (int i = 0; i < 7; i++) {
            last.hear(0, 11, true);
        }
        is("by seven", last.eaten(0), 9);
        last.hear(1, 11, false);
        is("the eighth counts", last.eaten(0), 1);
        is("the eighth counts", last.eaten(1), 1);
    }

    private static void eaten() {
        quote("EATEN: how many (what 0), the first (1; NONE: none), whether without (2). NoSuchElementException: another what.");
        RootTower none = new RootTower();
        row("no ROOTS", none::eaten, 0, -1, 1);
        noneOf("what", none::eaten, -1, 3);
        RootTower t = Texts.tower(SIX + "beet 20 0;beet 20 0;beet 20 0;beet 20 0;");
        row("nothing is HEARD", t::eaten, 100, 0, 1);
        noneOf("what", t::eaten, -1, 3);
        quote("how many (ROOTS not EATEN now)");
        t.eat(0);
        row("one less", t::eaten, 90, 10, 1);
        for (int root = 1; root < 10; root++) {
            t.eat(root);
        }
        row("all EATEN", t::eaten, 0, -1, 1);
        t.hear(0, 0, true);
        row("all EATEN, and what isn't so", t::eaten, 0, -1, 0);
        RootTower never = Texts.tower("beet 9 0 0;");
        never.hear(0, 12, true);
        row("what can't be", never::eaten, 0, -1, 0);
        RootTower second = Texts.tower("turnip 9 0;beet 11 0 0;beet 9 0 1;lasts 99;weather 0;grows 0;");
        second.hear(0, 10, false);
        row("the second on DAY 0", second::eaten, 1, 10, 0);
        second.forget();
        second.hear(9, 11, false);
        second.hear(8, 11, true);
        row("the third on DAY 9", second::eaten, 1, 29, 0);
    }

    private static void eatenOnTheDay() {
        quote("EATEN are ROOTS and DAYS (0 to 9 from now, ahead of that DAY)");
        quote("one EATEN on it doesn't SOUND on it");
        RootTower t = Texts.tower("beet 9 0 0;lasts 99;weather 0;");
        for (int day = 0; day <= 30; day++) {
            t.hear(day, 11, false);
            is("EATEN by DAY " + day, t.eaten(0), Math.min(day + 1, 10));
            is("from DAY 0 on", t.eaten(1), 0);
            t.forget();
            t.hear(day, 11, true);
            is("EATEN behind DAY " + day, t.eaten(0), Math.max(9 - day, 0));
            is("the first", t.eaten(1), day < 9 ? day + 1 : -1);
            t.forget();
        }
        quote("as it is ahead of what that DAY does");
        RootTower soft = Texts.tower("beet 9 0 0;lasts 2;weather 0;");
        soft.hear(1, 11, true);
        is("not yet SOFT", soft.eaten(2), 1);
        soft.hear(2, 11, true);
        is("SOFT", soft.eaten(2), 0);
        RootTower note = Texts.tower("beet 9 0 0;lasts 99;weather 0;note day;");
        note.days(3);
        note.hear(0, 3, true);
        note.hear(12, 15, true);
        note.hear(13, 15, true);
        note.hear(30, 15, true);
        note.hear(30, 14, false);
        row("from now, kept to 15", note::eaten, 0, -1, 1);
    }

    private static void next() {
        quote("THE NEXT DAY (what 0; NONE), how many (1; 0: none). NoSuchElementException: another what.");
        RootTower none = new RootTower();
        row("no ROOTS", none::next, -1, 0);
        noneOf("what", none::next, -1, 2);
        RootTower t = Texts.tower("beet 9 0 0;lasts 99;weather 0;");
        row("one BELL: EATEN or not yet, on DAY 0", t::next, 0, 2);
        noneOf("what", t::next, -1, 2);
        t.hear(0, 11, false);
        row("EATEN on DAY 0: one set on each DAY", t::next, 0, 1);
        t.hear(0, 11, true);
        row("none", t::next, -1, 0);
        quote("(0 to 30; of like ones the first)");
        row("30", Texts.tower("turnip 9 0 0;beet 9 0 1;lasts 99;weather 0;note kind*(day=30);")::next, 30, 2);
        row("31 is not told", Texts.tower("turnip 9 0 0;beet 9 0 1;lasts 99;weather 0;note kind*(day=31);")::next, 0, 1);
        row("of like ones the first", Texts.tower("turnip 9 0 0;beet 9 0 1;lasts 99;weather 0;note kind*(day=30)+kind*(day=20);")::next, 20, 2);
        // six unlike NOTES: six sets without one each, and all of them while one is EATEN later, up to DAY 8
        String unlike = "note size;beet 1 0 0;beet 2 0 1;beet 3 0 2;beet 4 0 3;beet 5 0 4;beet 6 0 5;lasts 99;weather 0;";
        row("seven sets", Texts.tower(unlike)::next, 0, 7);
        row("one in THE GARDEN leaves all", Texts.tower(unlike + "beet 9 0;")::next, 0, 7);
        RootTower from = Texts.tower(unlike);
        from.hear(8, 1, true);
        from.hear(9, 1, false);
        row("the first ROOT on DAY 9 alone", from::eaten, 1, 9, 0);
        row("one set", from::next, 0, 1);
        RootTower later = Texts.tower("turnip 9 0 0;beet 11 0 1;lasts 99;weather 0;");
        later.hear(2, 11, true);
        later.hear(2, 10, true);
        row("from DAY 3 on: each of two, and both", later::next, 3, 3);
        later.hear(8, 11, true);
        later.hear(8, 10, true);
        row("on DAY 9 alone: each of two", later::next, 9, 2);
        later.hear(9, 11, true);
        row("the second one on DAY 9: one set", later::next, 0, 1);
        quote("none without any");
        RootTower all = Texts.tower("beet 9 0 0;");
        all.eat(0);
        row("all EATEN", all::next, -1, 0);
        row("none hangs: one set, of nothing", Texts.tower("beet 9 0;")::next, 0, 1);
    }

    private static void gameIsRefused() {
        RootTower t = Texts.tower("beet 9 0 0;beet 9 0 5;swede 9 0;turnip 9 0;");
        t.eat(3);
        quote("NoSuchElementException: also another what. IllegalArgumentException (behind that): both are one, one doesn't hang.");
        noneOf("ROOT", root -> t.game(root, 1, 0), -1, 4);
        noneOf("other", other -> t.game(0, other, 0), -1, 4);
        noneOf("what", what -> t.game(0, 1, what), -1, 2);
        noneOf("what of one", what -> t.game(0, 0, what), -1, 2);
        noneOf("what of one that doesn't hang", what -> t.game(0, 2, what), -1, 2);
        noneOf("ROOT and what", root -> t.game(root, 2, 2), -1, 4);
        noneOf("both no ROOT", root -> t.game(root, root, 0), -1, 4);
        bad("both are one", () -> t.game(0, 0, 0));
        bad("both are one, that doesn't hang", () -> t.game(2, 2, 1));
        bad("in THE GARDEN", () -> t.game(0, 2, 0));
        bad("in THE GARDEN", () -> t.game(2, 0, 1));
        bad("EATEN", () -> t.game(0, 3, 0));
        bad("EATEN", () -> t.game(3, 0, 0));
        is("fine", t.game(0, 1, 0) > 0, true);
    }

    private static void game() {
        quote("(who can't be HOLLOWED has 0 alone): how many; the first (10 by the first one's and the other one's)");
        RootTower neither = Texts.tower("beet 1 0 0;beet 1 0 5;");
        row("neither can be", what -> neither.game(0, 1, what), 1, 0);
        RootTower full = Texts.tower("note hollow;beet 60 20 0;beet 60 0 5;tune 1;");
        row("HOLLOW 20: the other one is as well off", what -> full.game(0, 1, what), 2, 0);
        row("the other way", what -> full.game(1, 0, what), 2, 0);
        RootTower less = Texts.tower("note 3*hollow;beet 5 4 0;beet 60 0 5;tune 3;");
        row("less than SIZE: the other one alone", what -> less.game(0, 1, what), 1, 1);
        row("the other way", what -> less.game(1, 0, what), 1, 10);
        // whose NOTE would be the TUNE's, were it HOLLOWED by 1: it is, if it can be at all
        String would = "note 7*(hollow=1)+7*(hollow=20)+7*(hollow=21)+15*(kind=1);tune 7;swede 1 0 5;";
        RootTower sizeOne = Texts.tower(would + "turnip 1 0 0;");
        row("SIZE 1 can't be", what -> sizeOne.game(1, 0, what), 1, 0);
        row("the other way", what -> sizeOne.game(0, 1, what), 1, 0);
        RootTower sizeTwo = Texts.tower(would + "turnip 2 0 0;");
        row("SIZE 2 can be", what -> sizeTwo.game(1, 0, what), 1, 10);
        row("the other way", what -> sizeTwo.game(0, 1, what), 1, 1);
        RootTower twenty = Texts.tower(would.replace("(hollow=20)", "0") + "turnip 60 20 0;");
        row("HOLLOW 20 can't be", what -> twenty.game(1, 0, what), 1, 0);
        RootTower nineteen = Texts.tower(would + "turnip 60 19 0;");
        row("HOLLOW 19 can be", what -> nineteen.game(1, 0, what), 1, 10);
        RootTower both = Texts.tower("note 4*hollow+kind;turnip 9 0 0;swede 9 0 5;tune 4 5;");
        row("both are", what -> both.game(0, 1, what), 1, 11);
        RootTower soft = Texts.tower("note 4*hollow+kind;turnip 9 0 0;swede 9 0 5;tune 4 5;lasts 1;");
        soft.days(1);
        row("SOFT ones are BELLS", what -> soft.game(0, 1, what), 1, 11);
        RootTower kept = Texts.tower("note 4*hollow+kind;turnip 9 0 0;swede 9 0 5;tune 4 5;");
        kept.game(0, 1, 0);
        is("nothing is HOLLOWED", kept.root(0, 2), 0);
        quote("A couple RESTS, if neither gains more by the other choice");
        RootTower all = Texts.tower("note hollow+6*kind;turnip 9 0 0;swede 9 0 5;tune 1 7;");
        row("as much either way", what -> all.game(0, 1, what), 4, 0);
    }

    /** Two that are far from each other: HOLLOWED is the one whose NOTE comes near enough to a NOTE of the TUNE to gain 2 or more. */
    private static int choiceBy(int from, int to) {
        String rule = "note " + from + "*(hollow=0)*(kind=0)+" + to + "*hollow*(kind=0)+15*(kind=1);";
        RootTower t = Texts.tower(rule + "turnip 9 0 0;swede 1 0 5;tune 7;");
        return 10 * t.game(0, 1, 0) + t.game(0, 1, 1) / 10;
    }

    private static void gameGains() {
        quote("each gains 4 less how far its NOTE then is from the nearest NOTE of THE TUNE, not below 0 (nothing without a TUNE)");
        quote("and loses 2, if both have one NOTE then, and 1 for being HOLLOWED");
        is("0 and 4: yes", choiceBy(0, 7), 11);
        is("3 away is 1: as much either way", choiceBy(0, 4), 20);
        is("2 away is 2: yes", choiceBy(0, 5), 11);
        is("4 away is 0: no", choiceBy(0, 3), 10);
        is("5 away is 0 as well", choiceBy(2, 3), 10);
        is("4 and 3 away: as much either way", choiceBy(3, 4), 20);
        is("above it: 3 away as much", choiceBy(12, 10), 20);
        is("above it: 2 away yes", choiceBy(12, 9), 11);
        is("from 4 to 0: no", choiceBy(7, 12), 10);
        RootTower none = Texts.tower("note 5*hollow+kind;turnip 9 0 0;swede 9 0 5;");
        row("without a TUNE none is HOLLOWED", what -> none.game(0, 1, what), 1, 0);
        RootTower clash = Texts.tower("note 5*hollow;turnip 9 0 0;swede 9 0 5;");
        row("2 for one NOTE: one of them is", what -> clash.game(0, 1, what), 2, 1);
        // 4 less 2 for one NOTE, or 3 less 1 for being HOLLOWED
        RootTower exact = Texts.tower("note 5+hollow;turnip 9 0 0;swede 1 0 5;tune 5;");
        row("2 and 1 are as much", what -> exact.game(0, 1, what), 2, 0);
        RootTower two = Texts.tower("note 5+2*hollow;turnip 9 0 0;swede 1 0 5;tune 5;");
        row("2 away is less", what -> two.game(0, 1, what), 1, 0);
        RootTower between = Texts.tower("note 5+hollow;turnip 9 0 0;swede 1 0 5;tune 5 6;");
        row("as near: HOLLOWED", what -> between.game(0, 1, what), 1, 10);
        RootTower nearest = Texts.tower("note 5*hollow+15*kind;turnip 9 0 0;swede 1 0 5;tune 15 5;");
        row("the nearest of two", what -> nearest.game(0, 1, what), 1, 10);
    }

    private static void towersAreRefused() {
        RootTower t = Texts.tower("beet 9 0 0;");
        quote("NoSuchElementException: another what. IllegalArgumentException (behind that): n.");
        noneOf("what", what -> t.towers(1, 1, what), -1, 3);
        noneOf("what, ahead", what -> t.towers(1, 61, what), -1, 3);
        badOf("n", n -> t.towers(1, n, 0), -1, 61);
        badOf("n", n -> t.towers(1, n, 2), -1, 61);
        badOf("no ROOTS", n -> new RootTower().towers(1, n, 1), -1, 61);
        for (int seed : new int[] {0, -1, 1, Integer.MIN_VALUE, Integer.MAX_VALUE}) {
            is("0 DAYS", t.towers(seed, 0, 0), 1);
            is("60 DAYS", t.towers(seed, 60, 1), 0);
        }
        is("nothing went by", t.count(2), 0);
        is("SOFTNESS", t.root(0, 3), 0);
    }

    /** A DRAW once more, by long numbers. */
    private static final class Draws {
        private long seed;

        Draws(int seed) {
            this.seed = seed;
        }

        int of(int n) {
            seed = Math.floorMod(seed * 1103515245L + 12345L, 1L << 32);
            return (int) (seed / 65536 % 32768 % n);
        }
    }

    private static void towers() {
        quote("the WEATHER of each DAY is a DRAW of 10 behind that");
        quote("a DRAW of n is its bits 16 to 30 MOD n then");
        for (int seed : new int[] {0, 1, 5, -1, 77777, Integer.MAX_VALUE, Integer.MIN_VALUE, 1 << 16, 123456789}) {
            for (int n : new int[] {0, 1, 2, 59, 60}) {
                Draws draws = new Draws(seed);
                int soft = 0;
                for (int day = 0; day < n; day++) {
                    int event = draws.of(8);
                    if (event < 2) {
                        draws.of(1);
                    }
                    soft = Math.min(99, soft + (event == 1 ? 9 : 0));
                    soft = Math.min(99, soft + 1 + draws.of(10) / 2);
                }
                for (int lasts : new int[] {soft - 1, soft, soft + 1, 99}) {
                    if (lasts >= 1 && lasts <= 99) {
                        RootTower t = Texts.tower("beet 9 0 " + lasts % 6 + ";weather 9;lasts " + lasts + ";");
                        is("seed " + seed + ", n " + n + ", lasts " + lasts, t.towers(seed, n, 0), soft < lasts ? 1 : 0);
                        is("none is EATEN", t.towers(seed, n, 1), 0);
                        is("none is in THE GARDEN", t.towers(seed, n, 2), 0);
                    }
                }
            }
        }
        quote("(Without ROOTS no sheep, no frost: a DRAW of 8, of 10 alone.)");
        row("no ROOTS", what -> new RootTower().towers(0, 60, what), 0, 0, 0);
    }

    private static void towersSheepAndFrost() {
        quote("SIZE of all that are in THE GARDEN");
        RootTower t = Texts.tower("beet 9 0;swede 60 0;turnip 1 0;mangold 30 0 2;beet 20 0;");
        t.eat(4);
        row("0 DAYS", what -> t.towers(3, 0, what), 1, 1, 70);
        quote("that one is EATEN, if in THE GARDEN");
        // three in THE GARDEN, one that hangs, one EATEN already
        for (int seed = -40; seed < 40; seed++) {
            Draws draws = new Draws(seed);
            int eaten = 1 << 4;
            for (int day = 0; day < 60; day++) {
                int event = draws.of(8);
                int root = event < 2 ? draws.of(5) : -1;
                eaten |= event == 0 && root != 3 ? 1 << root : 0;
                draws.of(10);
            }
            is("EATEN, seed " + seed, t.towers(seed, 60, 1), Integer.bitCount(eaten));
        }
        is("none in truth", t.count(9), 1 << 4);
        quote("that one is 9 softer (99 at most), if it hangs");
        RootTower garden = Texts.tower("beet 9 0;swede 60 0;grows soft;");
        for (int seed = -40; seed < 40; seed++) {
            int gone = garden.towers(seed, 9, 1);
            int size = garden.towers(seed, 9, 2);
            is("one in THE GARDEN is not softer, seed " + seed, gone == 0 ? size == 69 : gone == 1 ? size == 9 || size == 60 : size == 0, true);
        }
        quote("n DAYS (0 to 60) from now on");
        RootTower day = Texts.tower("beet 9 0;grows day;lasts 99;");
        day.days(5);
        is("GROWS by the DAY from now on", gardenBy(day, 1), 19 + 5);
        quote("A seed becomes itself times 1103515245 and 12345 (an int that wraps)");
        RootTower weather = Texts.tower("beet 1 0;grows weather;");
        for (int seed = -40; seed < 40; seed++) {
            Draws draws = new Draws(seed);
            int event = draws.of(8);
            if (event < 2) {
                draws.of(1);
            }
            is("GROWS by the WEATHER that is drawn, seed " + seed, weather.towers(seed, 1, 2), event == 0 ? 0 : 1 + draws.of(10));
        }
    }

    /** SIZE behind so many DAYS by the first seed without a sheep. */
    private static int gardenBy(RootTower t, int days) {
        for (int seed = 1; seed < 50; seed++) {
            if (t.towers(seed, days, 1) == 0) {
                return t.towers(seed, days, 2);
            }
        }
        return -1;
    }

    private static void needed() {
        quote("the least (0 on) by which, HOLLOWED now, it has it; none");
        RootTower t = Texts.tower("note hollow;beet 60 0;swede 16 5 0;turnip 1 0;");
        is("0", t.needed(0, 0), 0);
        is("15", t.needed(0, 15), 15);
        is("0", t.needed(1, 5), 0);
        is("10", t.needed(1, 15), 10);
        is("less", t.needed(1, 4), -1);
        is("SIZE 1", t.needed(2, 0), 0);
        is("SIZE 1", t.needed(2, 1), -1);
        is("to 20", Texts.tower("note hollow - 5;beet 60 0;").needed(0, 15), 20);
        is("not to 21", Texts.tower("note hollow - 6;beet 60 0;").needed(0, 15), -1);
        is("less than SIZE", Texts.tower("note hollow;beet 15 0;").needed(0, 15), -1);
        is("less than SIZE", Texts.tower("note hollow;beet 15 0;").needed(0, 14), 14);
        is("the least of several", Texts.tower("note hollow/3;beet 15 1;").needed(0, 2), 5);
        quote("NEEDED; NONE: none, EATEN. NoSuchElementException: also no such NOTE (as everywhere).");
        t.eat(0);
        is("EATEN", t.needed(0, 0), -1);
        noneOf("NOTE", note -> t.needed(1, note), -1, 16);
        noneOf("NOTE of one EATEN", note -> t.needed(0, note), -1, 16);
        noneOf("ROOT", root -> t.needed(root, 0), -1, 3);
    }

    private static void grown() {
        quote("GROWN: in how many DAYS (0 to 60), if only DAYS go by, a ROOT that is in THE GARDEN first has a NOTE; none.");
        RootTower t = Texts.tower("beet 9 0;swede 9 0 0;turnip 9 0;note day/4;");
        is("0", t.grown(0, 0), 0);
        is("4", t.grown(0, 1), 4);
        is("60", t.grown(0, 15), 60);
        is("61", Texts.tower("beet 9 0;note day/61;").grown(0, 1), -1);
        is("none", Texts.tower("beet 9 0;").grown(0, 12), -1);
        is("first", Texts.tower("beet 9 0;note (day=7)+(day=3);").grown(0, 1), 3);
        quote("GROWN; NONE: none, not in THE GARDEN.");
        is("it hangs", t.grown(1, 0), -1);
        t.eat(2);
        is("EATEN", t.grown(2, 0), -1);
        t.take(1);
        is("TAKEN", t.grown(1, 0), 0);
        noneOf("NOTE", note -> t.grown(0, note), -1, 16);
        noneOf("NOTE of one EATEN", note -> t.grown(2, note), -1, 16);
        noneOf("ROOT", root -> t.grown(root, 0), -1, 3);
        RootTower hangs = Texts.tower("beet 9 0 0;");
        noneOf("NOTE of one that hangs", note -> hangs.grown(0, note), -1, 16);
    }

    private static void scale() {
        quote("A SCALE: how many (what 0; 0: none), the lowest (1; NONE). NoSuchElementException: another what.");
        row("no ROOTS", new RootTower()::scale, 0, -1);
        row("none SOUNDS", Texts.tower("beet 9 0;")::scale, 0, -1);
        row("one", Texts.tower("beet 9 0 0;")::scale, 1, 11);
        row("NOTE 0", Texts.tower("note 0;beet 9 0 0;")::scale, 1, 0);
        row("NOTE 15", Texts.tower("note 15;beet 9 0 0;")::scale, 1, 15);
        row("like ones", Texts.tower(SIX)::scale, 1, 11);
        row("15 and 0 are not next to each other", Texts.tower("note 15*kind/3;turnip 9 0 0;beet 9 0 1;")::scale, 1, 0);
        row("six, up to 15", Texts.tower("note size;beet 15 0 0;beet 14 0 1;beet 13 0 2;beet 12 0 3;beet 11 0 4;beet 10 0 5;")::scale, 6, 10);
        row("six, from 0 on", Texts.tower("note size-1;beet 1 0 0;beet 2 0 1;beet 3 0 2;beet 4 0 3;beet 5 0 4;beet 6 0 5;")::scale, 6, 0);
        quote("the lowest one (of like ones the least); none");
        row("of like ones the least", Texts.tower("note size;beet 15 0 0;beet 14 0 1;beet 3 0 2;beet 4 0 3;beet 7 0 4;")::scale, 2, 3);
        row("the most", Texts.tower("note size;beet 15 0 0;beet 14 0 1;beet 13 0 2;beet 4 0 3;beet 3 0 4;")::scale, 3, 13);
        RootTower t = Texts.tower("beet 9 0 0;lasts 3;");
        noneOf("what", t::scale, -1, 2);
        noneOf("what", new RootTower()::scale, -1, 2);
        t.days(1);
        row("SOFT", t::scale, 0, -1);
    }

    private static void mouth() {
        quote("THE TENOR (what 0), THE TREBLE (1); NONE: none. NoSuchElementException: another what.");
        row("no ROOTS", new RootTower()::mouth, -1, -1);
        row("none SOUNDS", Texts.tower("beet 9 0;")::mouth, -1, -1);
        row("one is both", Texts.tower("beet 5 0;beet 9 0 0;")::mouth, 1, 1);
        row("NOTES 0 and 15", Texts.tower("note 15*kind/3;beet 9 0 1;turnip 9 0 0;")::mouth, 1, 0);
        quote("(of like ones the least ROOT); none");
        row("of like ones the least ROOT, not HOOK", Texts.tower("beet 9 0 5;beet 9 0 0;beet 5 0 3;beet 5 0 1;")::mouth, 0, 2);
        row("1 apart", Texts.tower("note size;beet 9 0 5;beet 8 0 0;beet 10 0 1;")::mouth, 1, 2);
        row("1 apart", Texts.tower("note size;beet 8 0 5;beet 9 0 0;beet 7 0 1;")::mouth, 2, 1);
        RootTower t = Texts.tower("beet 9 0 0;beet 5 0 1;lasts 3;");
        noneOf("what", t::mouth, -1, 2);
        noneOf("what", new RootTower()::mouth, -1, 2);
        t.eat(0);
        row("EATEN", t::mouth, 1, 1);
        t.days(1);
        row("SOFT", t::mouth, -1, -1);
    }

    private static void leads() {
        quote("LEADS (0: it doesn't hang, no METHOD).");
        RootTower t = Texts.tower(SIX + "beet 9 0;beet 9 0;method 21 10;");
        t.eat(7);
        row("plain hunt: twice each", t::leads, 2, 2, 2, 2, 2, 2, 0, 0);
        noneOf("ROOT", t::leads, -1, 8);
        row("no METHOD", Texts.tower(SIX)::leads, 0, 0, 0, 0, 0, 0);
        quote("in how many rows of the METHOD, from ROUNDS on, ahead of LENGTH, it is at place 0");
        row("ROUNDS alone", Texts.tower(SIX + "method 0;")::leads, 1, 0, 0, 0, 0, 0);
        row("two rows", Texts.tower(SIX + "method 1;")::leads, 1, 1, 0, 0, 0, 0);
        row("place 0 never changes", Texts.tower(SIX + "method 2 4;")::leads, 6, 0, 0, 0, 0, 0);
        row("not TRUE", Texts.tower("beet 9 0 1;beet 9 0 0;method 1 0;")::leads, 2, 1);
    }

    private static void meets() {
        quote("MEETS (0: one doesn't hang, no METHOD, both are one).");
        RootTower t = Texts.tower("beet 9 0 0;beet 9 0 1;beet 9 0 2;beet 9 0;beet 9 0;method 1 2;");
        t.eat(4);
        row("with 0", other -> t.meets(0, other), 0, 4, 4, 0, 0);
        row("with one in THE GARDEN", other -> t.meets(3, other), 0, 0, 0, 0, 0);
        row("with one EATEN", other -> t.meets(4, other), 0, 0, 0, 0, 0);
        noneOf("ROOT", root -> t.meets(root, 0), -1, 5);
        noneOf("other", other -> t.meets(0, other), -1, 5);
        noneOf("both", root -> t.meets(root, root), -1, 5);
        row("no METHOD", other -> Texts.tower(SIX).meets(0, other), 0, 0, 0, 0, 0, 0);
        is("meets", t.meets(1, 2), 4);
        t.take(2);
        row("one that hung last, and is TAKEN", other -> t.meets(2, other), 0, 0, 0, 0, 0);
        row("one that hung last, and is TAKEN", root -> t.meets(root, 2), 0, 0, 0, 0, 0);
        is("it leads no more", t.leads(2), 0);
        quote("two BELLS (unlike ones) are at places next to each other");
        row("ROUNDS alone", other -> Texts.tower(SIX + "method 0;").meets(0, other), 0, 1, 0, 0, 0, 0);
        row("ROUNDS alone", other -> Texts.tower(SIX + "method 0;").meets(5, other), 0, 0, 0, 0, 1, 0);
        row("the first and the last are not", other -> Texts.tower("beet 9 0 0;beet 9 0 1;beet 9 0 2;method 0;").meets(2, other), 0, 1, 0);
    }

    private static void without() {
        quote("WITHOUT a ROOT: THE LAST DAY, were it EATEN now; none.");
        RootTower t = Texts.tower("beet 9 0 0;beet 9 0;beet 11 0;beet 9 0;tune 11;lasts 99;weather 0;grows 0;");
        is("none", t.without(0), -1);
        is("60", t.without(1), 60);
        t.hang(1, 3);
        is("60", t.without(0), 60);
        t.eat(3);
        is("EATEN already", t.without(3), 60);
        is("nothing is EATEN", t.count(9), 8);
        noneOf("ROOT", t::without, -1, 4);
        RootTower ten = Texts.tower("beet 5 0;beet 5 0;beet 5 0;beet 5 0;beet 5 0;beet 5 0;beet 5 0;beet 7 0 0;beet 5 0;beet 9 0 5;tune 11;lasts 99;weather 0;");
        row("the last one of ten", ten::without, 60, 60, 60, 60, 60, 60, 60, 60, 60, -1);
        is("without a TUNE", Texts.tower("beet 9 0;").without(0), 60);
        is("0", Texts.tower("beet 9 0 0;beet 9 0 1;tune 11;lasts 1;").without(0), 0);
        is("none already", Texts.tower("beet 9 0 0;tune 12;").without(0), -1);
        noneOf("no ROOTS", new RootTower()::without, 0);
    }

    private static void often() {
        quote("OFTEN: in how many of 60 DAYS (1 to 60 from now), if only DAYS go by, a NOTE SOUNDS.");
        is("60", Texts.tower(LONG).often(11), 60);
        is("0", Texts.tower(LONG).often(12), 0);
        is("not today", Texts.tower(LONG + "note day=0;").often(1), 0);
        is("tomorrow", Texts.tower(LONG + "note day=1;").often(1), 1);
        is("the 60th", Texts.tower(LONG + "note day=60;").often(1), 1);
        is("not the 61st", Texts.tower(LONG + "note day=61;").often(1), 0);
        is("59 of 0", Texts.tower(LONG + "note day=60;").often(0), 59);
        is("15", Texts.tower(LONG + "note 15;").often(15), 60);
        is("once for several", Texts.tower(LONG + "beet 9 0 5;").often(11), 60);
        is("SOFT on the 60th", Texts.tower("beet 9 0 0;weather 0;lasts 60;").often(11), 59);
        is("SOFT tomorrow", Texts.tower("beet 9 0 0;weather 0;lasts 1;").often(11), 0);
        is("in THE GARDEN", Texts.tower("beet 9 0;grows 0;").often(11), 0);
        is("no ROOTS", new RootTower().often(0), 0);
        noneOf("NOTE", Texts.tower(LONG)::often, -1, 16);
        noneOf("NOTE without ROOTS", new RootTower()::often, -1, 16);
    }

    private static void spare() {
        quote("SPARE are ROOTS that SOUND, without which, were each alone EATEN now, THE TUNE RINGS now, as bits.");
        is("no ROOTS", new RootTower().spare(), 0);
        is("without a TUNE all that SOUND", Texts.tower(SIX + "beet 9 0;").spare(), 63);
        is("each alone", Texts.tower("beet 9 0 0;beet 9 0 1;tune 11;").spare(), 3);
        is("the only one", Texts.tower("beet 9 0 0;beet 5 0 1;tune 11;").spare(), 2);
        is("one in THE GARDEN is none", Texts.tower("beet 9 0 0;beet 9 0;tune 11;").spare(), 0);
        is("it doesn't RING", Texts.tower(SIX + "tune 12;").spare(), 0);
        RootTower t = Texts.tower("beet 9 0 0;beet 9 0;grows 0;tune 11;lasts 3;");
        t.days(1);
        t.hang(1, 4);
        is("one SOFT is none", t.spare(), 0);
        is("all six", Texts.tower(SIX + "tune 11;").spare(), 63);
    }
}
