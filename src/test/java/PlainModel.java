import java.util.ArrayDeque;
import java.util.ArrayList;
import java.util.Arrays;
import java.util.Comparator;
import java.util.Deque;
import java.util.HashSet;
import java.util.List;
import java.util.NoSuchElementException;
import java.util.Set;
import java.util.TreeSet;

/**
 * The document once more, as plainly as it can be written, for ModelTest: all is tried out,
 * nothing is kept, every question copies the world and lets it run.
 */
final class PlainModel {
    static final class Fault extends Exception {
        private static final long serialVersionUID = 1L;
        final int code;
        final int place;

        Fault(int code, int place) {
            this.code = code;
            this.place = place;
        }
    }

    /** A token: kind 'w' word, 'n' number, 's' sign, '?' none, 'e' the end. */
    record Token(char kind, String text, int place) {
        boolean is(String what) {
            return (kind == 'w' || kind == 's') && text.equals(what);
        }

        boolean isLong() {
            return text.length() > 4;
        }
    }

    interface Expr {
        int of(Root root, int weather, int day);
    }

    static final class Root {
        int kind;
        int size;
        int hollow;
        int soft;
        int hook = -1;
        boolean eaten;

        Root copy() {
            Root r = new Root();
            r.kind = kind;
            r.size = size;
            r.hollow = hollow;
            r.soft = soft;
            r.hook = hook;
            r.eaten = eaten;
            return r;
        }

        boolean hangs() {
            return hook >= 0 && !eaten;
        }

        boolean inGarden() {
            return hook < 0 && !eaten;
        }

        int mayBeHollowed() {
            int most = 0;
            while (!eaten && hollow + most + 1 <= 20 && hollow + most + 1 < size) {
                most++;
            }
            return most;
        }
    }

    record Hearing(int days, int note, boolean sounds) {
    }

    /** What an image keeps and an ACT brings back. */
    static final class World {
        int day;
        List<Root> roots = new ArrayList<>();
        List<Integer> method = new ArrayList<>();

        World copy() {
            World w = new World();
            w.day = day;
            for (Root r : roots) {
                w.roots.add(r.copy());
            }
            w.method.addAll(method);
            return w;
        }
    }

    private byte[] tape = new byte[0];
    private int faultAt = -1;
    private final int[] status = new int[3];
    private World world = new World();
    private List<Integer> weather = new ArrayList<>();
    private int lasts = 20;
    private List<Integer> tune = new ArrayList<>();
    private Expr noteRule;
    private Expr growsRule;
    private Deque<World> acts = new ArrayDeque<>();
    private List<Hearing> heard = new ArrayList<>();
    private World imageWorld;
    private Deque<World> imageActs;
    private List<Hearing> imageHeard;

    // ---- the text

    static List<Token> tokens(String text) {
        List<Token> all = new ArrayList<>();
        int i = 0;
        while (i < text.length()) {
            char c = text.charAt(i);
            if (c == ' ' || c == '\n') {
                i++;
                continue;
            }
            int j = i + 1;
            char kind = '?';
            if (c >= 'a' && c <= 'z') {
                kind = 'w';
                while (j < text.length() && text.charAt(j) >= 'a' && text.charAt(j) <= 'z') {
                    j++;
                }
            } else if (c >= '0' && c <= '9') {
                kind = 'n';
                while (j < text.length() && text.charAt(j) >= '0' && text.charAt(j) <= '9') {
                    j++;
                }
            } else if (";()+-*/<=".indexOf(c) >= 0) {
                kind = 's';
            }
            all.add(new Token(kind, text.substring(i, j), i));
            i = j;
        }
        all.add(new Token('e', "", text.length()));
        return all;
    }

    /** By the grammar, one method a rule, with a Fault thrown at the first token that is wrong. */
    static final class Parser {
        final List<Token> tokens;
        int i = 0;
        World world = new World();
        List<Integer> weather = new ArrayList<>();
        int lasts = 20;
        List<Integer> tune = new ArrayList<>();
        Expr note;
        Expr grows;
        final Set<String> told = new HashSet<>();

        Parser(String text) {
            tokens = tokens(text);
        }

        Token here() {
            return tokens.get(i);
        }

        void tower() throws Fault {
            while (here().kind != 'e') {
                line();
            }
        }

        void line() throws Fault {
            Token t = here();
            int kind = Arrays.asList("turnip", "swede", "mangold", "beet").indexOf(t.kind == 'w' ? t.text : "");
            if (kind >= 0) {
                if (world.roots.size() == 10) {
                    throw new Fault(2, t.place);
                }
                i++;
                root(kind);
            } else if (t.kind == 'w' && Arrays.asList("weather", "lasts", "tune", "method", "note", "grows").contains(t.text)) {
                if (!told.add(t.text)) {
                    throw new Fault(5, t.place);
                }
                i++;
                rest(t.text);
            } else {
                throw new Fault(1, t.place);
            }
            if (!here().is(";")) {
                throw new Fault(1, here().place);
            }
            i++;
        }

        int number(int low, int high) throws Fault {
            Token t = here();
            if (t.kind != 'n') {
                throw new Fault(1, t.place);
            }
            if (t.isLong() || Integer.parseInt(t.text) < low || Integer.parseInt(t.text) > high) {
                throw new Fault(2, t.place);
            }
            i++;
            return Integer.parseInt(t.text);
        }

        void root(int kind) throws Fault {
            Root r = new Root();
            r.kind = kind;
            r.size = number(1, 60);
            int place = here().place;
            r.hollow = number(0, 20);
            if (r.hollow >= r.size) {
                throw new Fault(2, place);
            }
            if (here().kind == 'n') {
                place = here().place;
                r.hook = number(0, 5);
                for (Root other : world.roots) {
                    if (other.hook == r.hook) {
                        throw new Fault(4, place);
                    }
                }
            }
            world.roots.add(r);
        }

        void row(List<Integer> into, int most, int greatest, boolean changes) throws Fault {
            do {
                int place = here().place;
                int n = number(0, greatest);
                if (into.size() == most || changes && Integer.toBinaryString(n).contains("11")) {
                    throw new Fault(2, place);
                }
                into.add(n);
            } while (here().kind == 'n');
        }

        void rest(String word) throws Fault {
            switch (word) {
                case "weather" -> row(weather, 10, 9, false);
                case "tune" -> row(tune, 8, 15, false);
                case "method" -> row(world.method, 12, 31, true);
                case "lasts" -> lasts = number(1, 99);
                case "note" -> note = expr(0);
                default -> grows = expr(0);
            }
        }

        Expr expr(int within) throws Fault {
            Token t = here();
            if (within == 6 && (t.kind == 'n' || t.kind == 'w' || t.is("("))) {
                throw new Fault(2, t.place);
            }
            Expr left = and(within);
            while (here().is("or")) {
                i++;
                Expr a = left;
                Expr b = and(within);
                left = (r, w, d) -> a.of(r, w, d) != 0 || b.of(r, w, d) != 0 ? 1 : 0;
            }
            return left;
        }

        Expr and(int within) throws Fault {
            Expr left = not(within, 0);
            while (here().is("and")) {
                i++;
                Expr a = left;
                Expr b = not(within, 0);
                left = (r, w, d) -> a.of(r, w, d) != 0 && b.of(r, w, d) != 0 ? 1 : 0;
            }
            return left;
        }

        Expr not(int within, int nots) throws Fault {
            if (here().is("not")) {
                if (nots == 6) {
                    throw new Fault(2, here().place);
                }
                i++;
                Expr a = not(within, nots + 1);
                return (r, w, d) -> a.of(r, w, d) == 0 ? 1 : 0;
            }
            Expr a = sum(within);
            if (here().is("<")) {
                i++;
                Expr b = sum(within);
                return (r, w, d) -> a.of(r, w, d) < b.of(r, w, d) ? 1 : 0;
            }
            if (here().is("=")) {
                i++;
                Expr b = sum(within);
                return (r, w, d) -> a.of(r, w, d) == b.of(r, w, d) ? 1 : 0;
            }
            return a;
        }

        Expr sum(int within) throws Fault {
            Expr left = product(within);
            while (here().is("+") || here().is("-")) {
                boolean plus = here().is("+");
                i++;
                Expr a = left;
                Expr b = product(within);
                left = (r, w, d) -> plus ? a.of(r, w, d) + b.of(r, w, d) : a.of(r, w, d) - b.of(r, w, d);
            }
            return left;
        }

        Expr product(int within) throws Fault {
            Expr left = part(within);
            while (here().is("*") || here().is("/")) {
                boolean times = here().is("*");
                i++;
                Expr a = left;
                Expr b = part(within);
                left = (r, w, d) -> times ? a.of(r, w, d) * b.of(r, w, d)
                    : b.of(r, w, d) == 0 ? 0 : a.of(r, w, d) / b.of(r, w, d);
            }
            return left;
        }

        Expr part(int within) throws Fault {
            Token t = here();
            if (t.is("(")) {
                i++;
                Expr a = expr(within + 1);
                if (!here().is(")")) {
                    throw new Fault(1, here().place);
                }
                i++;
                return a;
            }
            if (t.kind == 'w') {
                Expr value = value(t.text);
                if (value == null) {
                    throw new Fault(3, t.place);
                }
                i++;
                return value;
            }
            int n = number(0, 9999);
            return (r, w, d) -> n;
        }

        static Expr value(String word) {
            return switch (word) {
                case "size" -> (r, w, d) -> r.size;
                case "hollow" -> (r, w, d) -> r.hollow;
                case "kind" -> (r, w, d) -> r.kind;
                case "soft" -> (r, w, d) -> r.soft;
                case "weather" -> (r, w, d) -> w;
                case "day" -> (r, w, d) -> d;
                case "hung" -> (r, w, d) -> r.hangs() ? 1 : 0;
                default -> null;
            };
        }
    }

    int feed(int a, int b, int c, int d, int e) {
        if (tape.length + 20 > 700) {
            return -1;
        }
        byte[] longer = Arrays.copyOf(tape, tape.length + 20);
        int[] words = {a, b, c, d, e};
        for (int i = 0; i < 20; i++) {
            longer[tape.length + i] = (byte) (words[i / 4] >> 8 * (3 - i % 4));
        }
        tape = longer;
        return tape.length;
    }

    int tower(int n) {
        if (n < 0 || n > tape.length) {
            throw new IllegalArgumentException();
        }
        StringBuilder text = new StringBuilder();
        for (int i = 0; i < n; i++) {
            text.append((char) (tape[i] & 255));
        }
        tape = new byte[0];
        Parser p = new Parser(text.toString());
        try {
            p.tower();
        } catch (Fault f) {
            faultAt = f.place;
            status[0]++;
            return f.code;
        }
        faultAt = -1;
        world = p.world;
        weather = p.weather;
        lasts = p.lasts;
        tune = p.tune;
        noteRule = p.note;
        growsRule = p.grows;
        acts = new ArrayDeque<>();
        heard = new ArrayList<>();
        imageWorld = null;
        return 0;
    }

    int fault() {
        return faultAt;
    }

    // ---- what is so

    int weatherOf(int day) {
        return weather.isEmpty() ? 4 : weather.get(day % weather.size());
    }

    int noteOf(Root r, int day) {
        int value = noteRule == null ? 15 - (r.size - r.hollow) / 2 : noteRule.of(r, weatherOf(day), day);
        return Math.min(15, Math.max(0, value));
    }

    int noteHollowed(Root r, int much) {
        Root other = r.copy();
        other.hollow += much;
        return noteOf(other, world.day);
    }

    boolean soundsIn(Root r) {
        return r.hangs() && r.soft < lasts;
    }

    void day(World w, int weatherThen) {
        for (Root r : w.roots) {
            if (r.inGarden()) {
                int more = growsRule == null ? weatherThen < 5 ? 1 : 0 : growsRule.of(r, weatherThen, w.day);
                r.size = Math.min(60, r.size + Math.min(9, Math.max(0, more)));
            } else if (r.hangs()) {
                r.soft = Math.min(99, r.soft + 1 + weatherThen / 2);
            }
        }
        w.day++;
    }

    World in(int days) {
        World w = world.copy();
        for (int i = 0; i < days; i++) {
            day(w, weatherOf(w.day));
        }
        return w;
    }

    Set<Integer> notesSounding(World w) {
        Set<Integer> notes = new TreeSet<>();
        for (Root r : w.roots) {
            if (soundsIn(r)) {
                notes.add(noteOf(r, w.day));
            }
        }
        return notes;
    }

    boolean ringsIn(World w) {
        return notesSounding(w).containsAll(tune);
    }

    Root checked(int root) {
        if (root < 0 || root >= world.roots.size()) {
            throw new NoSuchElementException();
        }
        return world.roots.get(root);
    }

    static void need(boolean so) {
        if (!so) {
            throw new NoSuchElementException();
        }
    }

    static void allow(boolean so) {
        if (!so) {
            throw new IllegalArgumentException();
        }
    }

    List<Integer> bells() {
        List<Integer> bells = new ArrayList<>();
        for (int h = 0; h < 6; h++) {
            for (int r = 0; r < world.roots.size(); r++) {
                if (world.roots.get(r).hangs() && world.roots.get(r).hook == h) {
                    bells.add(r);
                }
            }
        }
        return bells;
    }

    interface Test {
        boolean so(Root r);
    }

    int bits(Test test) {
        int bits = 0;
        for (int r = 0; r < world.roots.size(); r++) {
            if (test.so(world.roots.get(r))) {
                bits += 1 << r;
            }
        }
        return bits;
    }

    int count(int what) {
        switch (what) {
            case 0: return world.roots.size();
            case 1: return bells().size();
            case 2: return world.day;
            case 3: return weatherOf(world.day);
            case 4: return lasts;
            case 5: return tune.size();
            case 6: return world.method.size();
            case 7: return bits(this::soundsIn);
            case 8: return bits(Root::inGarden);
            case 9: return bits(r -> r.eaten);
            case 10: return notesSounding(world).stream().mapToInt(n -> 1 << n).sum();
            case 11: return acts.size();
            case 12: return heard.size();
            case 13: return tape.length;
            case 14: return status[0];
            case 15: return status[1];
            case 16: return status[2];
            default: throw new NoSuchElementException();
        }
    }

    int root(int root, int what) {
        Root r = checked(root);
        switch (what) {
            case 0: return r.kind;
            case 1: return r.size;
            case 2: return r.hollow;
            case 3: return r.soft;
            case 4: return noteOf(r, world.day);
            case 5: return r.eaten ? -2 : r.hook;
            case 6: return soundsIn(r) ? 1 : 0;
            case 7: return r.mayBeHollowed();
            default: throw new NoSuchElementException();
        }
    }

    int hook(int hook) {
        need(hook >= 0 && hook < 6);
        for (int r = 0; r < world.roots.size(); r++) {
            if (world.roots.get(r).hangs() && world.roots.get(r).hook == hook) {
                return r;
            }
        }
        return -1;
    }

    int tune(int i) {
        need(i >= 0 && i < tune.size());
        return tune.get(i);
    }

    int change(int i) {
        need(i >= 0 && i < world.method.size());
        return world.method.get(i);
    }

    // ---- ACTS

    void act() {
        acts.addLast(world.copy());
        if (acts.size() > 40) {
            acts.removeFirst();
        }
    }

    int days(int many) {
        if (many < 1 || many > 30 || world.day + many > 999) {
            status[1]++;
            return -1;
        }
        act();
        world = in(many);
        return world.day;
    }

    int hang(int root, int hook) {
        Root r = checked(root);
        if (hook(hook) >= 0 || r.eaten) {
            status[1]++;
            return -2;
        }
        act();
        int was = r.hook;
        r.hook = hook;
        return was;
    }

    int take(int root) {
        Root r = checked(root);
        if (!r.hangs()) {
            status[1]++;
            return -1;
        }
        act();
        int was = r.hook;
        r.hook = -1;
        return was;
    }

    int hollow(int root, int much) {
        Root r = checked(root);
        if (r.eaten || much < 1 || much > r.mayBeHollowed()) {
            status[1]++;
            return -1;
        }
        act();
        r.hollow += much;
        return noteOf(r, world.day);
    }

    boolean eat(int root) {
        Root r = checked(root);
        if (r.eaten) {
            status[1]++;
            return false;
        }
        act();
        r.eaten = true;
        return true;
    }

    int alter(int i, int change) {
        int was = change(i);
        if (change < 0 || change > 31 || Integer.toBinaryString(change).contains("11")) {
            status[1]++;
            return -1;
        }
        act();
        world.method.set(i, change);
        return was;
    }

    int undo() {
        if (acts.isEmpty()) {
            return -1;
        }
        world = acts.removeLast();
        return acts.size();
    }

    // ---- if only DAYS go by

    int then(int root, int days) {
        checked(root);
        allow(days >= 0 && days <= 60);
        World w = in(days);
        return noteOf(w.roots.get(root), w.day);
    }

    int goes(int root) {
        if (!checked(root).hangs()) {
            return -1;
        }
        for (int d = 0; d <= 60; d++) {
            if (in(d).roots.get(root).soft >= lasts) {
                return d;
            }
        }
        return -1;
    }

    boolean rings(int days) {
        allow(days >= 0 && days <= 60);
        return ringsIn(in(days));
    }

    int last() {
        int most = -1;
        for (int d = 0; d <= 60; d++) {
            most = rings(d) ? d : most;
        }
        return most;
    }

    List<Integer> goingOrder() {
        List<Integer> order = new ArrayList<>(bells());
        order.sort(Comparator.<Integer>comparingInt(r -> goes(r) < 0 ? 100 : goes(r)).thenComparingInt(r -> r));
        return order;
    }

    int soft() {
        List<Integer> order = goingOrder();
        return order.isEmpty() || goes(order.get(0)) < 0 ? -1 : order.get(0);
    }

    int order(int i) {
        List<Integer> order = goingOrder();
        need(i >= 0 && i < order.size());
        return order.get(i);
    }

    // ---- the METHOD

    List<Integer> ring(List<Integer> method, int changes) {
        int n = bells().size();
        List<Integer> row = new ArrayList<>();
        for (int i = 0; i < n; i++) {
            row.add(i);
        }
        for (int k = 0; k < changes; k++) {
            int change = method.get(k % method.size());
            for (int b = 0; b < 5; b++) {
                if ((change & 1 << b) != 0 && b + 1 < n) {
                    int x = row.get(b);
                    row.set(b, row.get(b + 1));
                    row.set(b + 1, x);
                }
            }
        }
        return row;
    }

    int row(int changes) {
        allow(changes >= 0 && changes <= 999 && !world.method.isEmpty());
        int number = 0;
        for (int bell : ring(world.method, changes)) {
            number = number * 10 + bell;
        }
        return number;
    }

    int at(int changes, int place) {
        allow(changes >= 0 && changes <= 999 && !world.method.isEmpty());
        List<Integer> row = ring(world.method, changes);
        need(place >= 0 && place < row.size());
        return bells().get(row.get(place));
    }

    /** All rows ahead of LENGTH. */
    List<List<Integer>> rows(List<Integer> method) {
        List<List<Integer>> rows = new ArrayList<>();
        List<Integer> rounds = ring(method, 0);
        rows.add(rounds);
        for (int k = 1; ; k++) {
            List<Integer> row = ring(method, k);
            if (row.equals(rounds)) {
                return rows;
            }
            rows.add(row);
        }
    }

    int length() {
        return world.method.isEmpty() ? -1 : rows(world.method).size();
    }

    boolean isTrue(List<Integer> method) {
        List<List<Integer>> rows = rows(method);
        return new HashSet<>(rows).size() == rows.size();
    }

    boolean isTrue() {
        return world.method.isEmpty() || isTrue(world.method);
    }

    int longer() {
        int best = -1;
        int most = 0;
        for (int i = 0; i < world.method.size(); i++) {
            for (int number = 0; number < 32; number++) {
                List<Integer> other = new ArrayList<>(world.method);
                if (other.set(i, number) == number || Integer.toBinaryString(number).contains("11") || !isTrue(other)) {
                    continue;
                }
                int length = rows(other).size();
                if (length > most) {
                    most = length;
                    best = 100 * i + number;
                }
            }
        }
        return best >= 0 && (most > length() || !isTrue()) ? best : -1;
    }

    int leads(int root) {
        checked(root);
        int many = 0;
        int bell = bells().indexOf(root);
        if (bell >= 0 && !world.method.isEmpty()) {
            for (List<Integer> row : rows(world.method)) {
                many += row.get(0) == bell ? 1 : 0;
            }
        }
        return many;
    }

    int meets(int root, int other) {
        checked(root);
        checked(other);
        int a = bells().indexOf(root);
        int b = bells().indexOf(other);
        if (a < 0 || b < 0 || a == b || world.method.isEmpty()) {
            return 0;
        }
        int many = 0;
        for (List<Integer> row : rows(world.method)) {
            int distance = row.indexOf(a) - row.indexOf(b);
            many += distance == 1 || distance == -1 ? 1 : 0;
        }
        return many;
    }

    // ---- FIT, KEEPERS, EARLIEST

    int bestSum;
    List<Integer> bestRow;

    void tryFit(List<Integer> row, int sum) {
        if (bestRow != null && sum >= bestSum) {
            return;
        }
        if (row.size() == tune.size()) {
            bestSum = sum;
            bestRow = new ArrayList<>(row);
            return;
        }
        for (int r = 0; r < world.roots.size(); r++) {
            int much = needed(r, tune.get(row.size()));
            if (!row.contains(r) && much >= 0) {
                row.add(r);
                tryFit(row, sum + much);
                row.remove(row.size() - 1);
            }
        }
    }

    int fit(int i) {
        need(i >= -1 && i < tune.size());
        bestRow = null;
        tryFit(new ArrayList<>(), 0);
        return bestRow == null ? -2 : i == -1 ? bestSum : bestRow.get(i);
    }

    int keepers() {
        int best = -1;
        for (int set = 0; set < 1 << world.roots.size(); set++) {
            World w = world.copy();
            boolean all = true;
            for (int r = 0; r < w.roots.size(); r++) {
                boolean in = (set >> r & 1) == 1;
                all &= !in || soundsIn(w.roots.get(r));
                w.roots.get(r).eaten |= !in;
            }
            if (all && ringsIn(w) && (best < 0 || Integer.bitCount(set) < Integer.bitCount(best))) {
                best = set;
            }
        }
        return best;
    }

    int earliest() {
        for (int d = 0; d <= 60; d++) {
            World w = in(d);
            boolean all = true;
            for (int note : tune) {
                boolean there = false;
                for (Root r : w.roots) {
                    there |= !r.eaten && r.soft < lasts && noteOf(r, w.day) == note;
                }
                all &= there;
            }
            if (all) {
                return d;
            }
        }
        return -1;
    }

    // ---- HEARD

    int hear(int days, int note, boolean sounds) {
        if (heard.size() == 8 || days < 0 || days > 30 || note < 0 || note > 15) {
            status[2]++;
            return -1;
        }
        heard.add(new Hearing(days, note, sounds));
        return heard.size();
    }

    void forget() {
        heard.clear();
    }

    /** The world in so many DAYS, one ROOT (or none: -1) being EATEN ahead of a DAY. */
    World eatenThen(int root, int day, int days) {
        World w = world.copy();
        for (int d = 0; d <= days; d++) {
            if (d == day && root >= 0) {
                w.roots.get(root).eaten = true;
            }
            if (d < days) {
                day(w, weatherOf(w.day));
            }
        }
        return w;
    }

    boolean agrees(int root, int day) {
        for (Hearing h : heard) {
            if (notesSounding(eatenThen(root, day, h.days)).contains(h.note) != h.sounds) {
                return false;
            }
        }
        return true;
    }

    List<int[]> guesses() {
        List<int[]> all = new ArrayList<>();
        for (int r = 0; r < world.roots.size(); r++) {
            for (int d = 0; d <= 9 && !world.roots.get(r).eaten; d++) {
                if (agrees(r, d)) {
                    all.add(new int[] {r, d});
                }
            }
        }
        return all;
    }

    int eaten(int what) {
        need(what >= 0 && what <= 2);
        List<int[]> all = guesses();
        return what == 0 ? all.size()
            : what == 2 ? agrees(-1, 0) ? 1 : 0
            : all.isEmpty() ? -1 : 10 * all.get(0)[0] + all.get(0)[1];
    }

    int next(int what) {
        need(what == 0 || what == 1);
        List<int[]> all = guesses();
        int best = -1;
        int most = 0;
        for (int d = 0; d <= 30; d++) {
            Set<Set<Integer>> sets = new HashSet<>();
            for (int[] g : all) {
                sets.add(notesSounding(eatenThen(g[0], g[1], d)));
            }
            if (sets.size() > most) {
                most = sets.size();
                best = d;
            }
        }
        return what == 0 ? best : most;
    }

    // ---- the game, towers

    int gain(Root me, int mine, Root you, int yours) {
        int note = noteHollowed(me, mine);
        int gain = 0;
        if (!tune.isEmpty()) {
            int nearest = 100;
            for (int t : tune) {
                nearest = Math.min(nearest, Math.abs(t - note));
            }
            gain = Math.max(0, 4 - nearest);
        }
        return gain - (note == noteHollowed(you, yours) ? 2 : 0) - (mine == 1 ? 1 : 0);
    }

    int game(int root, int other, int what) {
        Root a = checked(root);
        Root b = checked(other);
        need(what == 0 || what == 1);
        allow(root != other && a.hangs() && b.hangs());
        List<Integer> resting = new ArrayList<>();
        for (int couple : new int[] {0, 1, 10, 11}) {
            int x = couple / 10;
            int y = couple % 10;
            if (x == 1 && a.mayBeHollowed() == 0 || y == 1 && b.mayBeHollowed() == 0) {
                continue;
            }
            boolean rests = true;
            if (a.mayBeHollowed() > 0) {
                rests &= gain(a, 1 - x, b, y) <= gain(a, x, b, y);
            }
            if (b.mayBeHollowed() > 0) {
                rests &= gain(b, 1 - y, a, x) <= gain(b, y, a, x);
            }
            if (rests) {
                resting.add(couple);
            }
        }
        return what == 0 ? resting.size() : resting.isEmpty() ? -1 : resting.get(0);
    }

    int seed;

    int draw(int n) {
        seed = seed * 1103515245 + 12345;
        int number = 0;
        for (int bit = 30; bit >= 16; bit--) {
            number = number * 2 + (seed >> bit & 1);
        }
        return number % n;
    }

    int towers(int from, int n, int what) {
        need(what >= 0 && what <= 2);
        allow(n >= 0 && n <= 60);
        seed = from;
        World w = world.copy();
        for (int i = 0; i < n; i++) {
            int event = draw(8);
            if (!w.roots.isEmpty() && event == 0) {
                Root r = w.roots.get(draw(w.roots.size()));
                r.eaten |= r.inGarden();
            } else if (!w.roots.isEmpty() && event == 1) {
                Root r = w.roots.get(draw(w.roots.size()));
                r.soft = r.hangs() ? Math.min(99, r.soft + 9) : r.soft;
            }
            day(w, draw(10));
        }
        int sum = 0;
        for (Root r : w.roots) {
            sum += what == 0 ? soundsIn(r) ? 1 : 0 : what == 1 ? r.eaten ? 1 : 0 : r.inGarden() ? r.size : 0;
        }
        return sum;
    }

    // ---- ==== 5.

    int needed(int root, int note) {
        Root r = checked(root);
        need(note >= 0 && note <= 15);
        for (int much = 0; much <= r.mayBeHollowed() && !r.eaten; much++) {
            if (noteHollowed(r, much) == note) {
                return much;
            }
        }
        return -1;
    }

    int grown(int root, int note) {
        Root r = checked(root);
        need(note >= 0 && note <= 15);
        for (int d = 0; d <= 60 && r.inGarden(); d++) {
            if (then(root, d) == note) {
                return d;
            }
        }
        return -1;
    }

    int scale(int what) {
        need(what == 0 || what == 1);
        Set<Integer> notes = notesSounding(world);
        for (int many = 16; many >= 1; many--) {
            for (int low = 0; low + many <= 16; low++) {
                boolean all = true;
                for (int n = low; n < low + many; n++) {
                    all &= notes.contains(n);
                }
                if (all) {
                    return what == 0 ? many : low;
                }
            }
        }
        return what == 0 ? 0 : -1;
    }

    int mouth(int what) {
        need(what == 0 || what == 1);
        Set<Integer> notes = notesSounding(world);
        if (notes.isEmpty()) {
            return -1;
        }
        int note = what == 0 ? ((TreeSet<Integer>) notes).first() : ((TreeSet<Integer>) notes).last();
        for (int r = 0; ; r++) {
            if (soundsIn(world.roots.get(r)) && noteOf(world.roots.get(r), world.day) == note) {
                return r;
            }
        }
    }

    int without(int root) {
        checked(root);
        World kept = world;
        world = world.copy();
        world.roots.get(root).eaten = true;
        int answer = last();
        world = kept;
        return answer;
    }

    int often(int note) {
        need(note >= 0 && note <= 15);
        int many = 0;
        for (int d = 1; d <= 60; d++) {
            many += notesSounding(in(d)).contains(note) ? 1 : 0;
        }
        return many;
    }

    int spare() {
        int bits = 0;
        for (int r = 0; r < world.roots.size(); r++) {
            World w = world.copy();
            w.roots.get(r).eaten = true;
            bits |= soundsIn(world.roots.get(r)) && ringsIn(w) ? 1 << r : 0;
        }
        return bits;
    }

    void image() {
        imageWorld = world.copy();
        imageActs = copies(acts);
        imageHeard = new ArrayList<>(heard);
    }

    boolean restore() {
        if (imageWorld == null) {
            return false;
        }
        world = imageWorld.copy();
        acts = copies(imageActs);
        heard = new ArrayList<>(imageHeard);
        return true;
    }

    private static Deque<World> copies(Deque<World> worlds) {
        Deque<World> all = new ArrayDeque<>();
        for (World w : worlds) {
            all.addLast(w.copy());
        }
        return all;
    }
}
