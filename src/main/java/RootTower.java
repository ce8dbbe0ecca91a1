import java.util.NoSuchElementException;

/** Turnips as bells: a garden, a tower of hooks, a tune and a method. What each call promises stands in DOC.md. */
public final class RootTower {
    public static final int NONE = -1;

    private static final int MOST_BYTES = 700;
    private static final int BYTES_A_FEED = 20;
    private static final int MOST_ROOTS = 10;
    private static final int MOST_SIZE = 60;
    private static final int MOST_HOLLOW = 20;
    private static final int MOST_SOFTNESS = 99;
    private static final int HOOKS = 6;
    private static final int MOST_WEATHER = 10;
    private static final int MOST_TUNE = 8;
    private static final int NOTES = 16;
    private static final int MOST_CHANGES = 12;
    private static final int CHANGE_NUMBERS = 32;
    private static final int MOST_ACTS = 40;
    private static final int MOST_HEARD = 8;
    private static final int LAST_DAY = 999;
    private static final int FAR = 60;
    private static final int HEARING = 30;
    private static final int MEALS = 10;
    private static final int GARDEN = -1;
    private static final int GONE = -2;
    private static final int REFUSED = -2;

    private final Reader reader = new Reader();
    private int faultAt = NONE;
    private final int[] refusals = new int[3];
    private Plan plan = new Plan();
    private final State state = new State();
    private final Acts acts = new Acts();
    private final Heard heard = new Heard();
    private final State imageState = new State();
    private final Acts imageActs = new Acts();
    private final Heard imageHeard = new Heard();
    private boolean imaged = false;
    private final Course course = new Course();
    private final Ringing ringing = new Ringing();
    private final Fitting fitting = new Fitting();
    private final Guess guess = new Guess();
    private final Wilds wilds = new Wilds();

    public RootTower() {
    }

    public int feed(int a, int b, int c, int d, int e) {
        if (reader.taped() > MOST_BYTES - BYTES_A_FEED) {
            return NONE;
        }
        reader.putBytes(a);
        reader.putBytes(b);
        reader.putBytes(c);
        reader.putBytes(d);
        reader.putBytes(e);
        return reader.taped();
    }

    public int tower(int n) throws IllegalArgumentException {
        if (n < 0 || n > reader.taped()) {
            throw new IllegalArgumentException("the tape has not so many bytes");
        }
        int wrong = reader.readTower(n);
        if (wrong != 0) {
            faultAt = reader.faultPlace();
            refusals[0]++;
            return wrong;
        }
        faultAt = NONE;
        plan = reader.handOver(plan);
        state.copyFrom(plan.start);
        acts.clear();
        heard.clear();
        imaged = false;
        forgetWork();
        return 0;
    }

    public int fault() {
        return faultAt;
    }

    public int count(int what) throws NoSuchElementException {
        switch (what) {
            case 0: return plan.roots;
            case 1: return Integer.bitCount(hangingBits());
            case 2: return state.day();
            case 3: return plan.weatherOn(state.day());
            case 4: return plan.lasting;
            case 5: return plan.tuneNotes;
            case 6: return plan.changes;
            case 7: return soundingNow();
            case 8: return bitsAt(GARDEN);
            case 9: return bitsAt(GONE);
            case 10: return course.noteBits(0, soundingNow());
            case 11: return acts.many();
            case 12: return heard.many();
            case 13: return reader.taped();
            case 14:
            case 15:
            case 16: return refusals[what - 14];
            default: throw new NoSuchElementException("no such count");
        }
    }

    public int root(int root, int what) throws NoSuchElementException {
        checkRoot(root);
        switch (what) {
            case 0: return plan.kindOf(root);
            case 1: return state.sizeOf(root);
            case 2: return state.hollowOf(root);
            case 3: return state.softnessOf(root);
            case 4: return state.noteOf(plan, root, 0);
            case 5: return state.placeOf(root);
            case 6: return soundingNow() >> root & 1;
            case 7: return state.roomToHollow(root);
            default: throw new NoSuchElementException("a root has no such thing");
        }
    }

    public int hook(int hook) throws NoSuchElementException {
        checkHook(hook);
        return state.rootOn(hook, plan.roots);
    }

    public int tune(int i) throws NoSuchElementException {
        if (i < 0 || i >= plan.tuneNotes) {
            throw new NoSuchElementException("the tune has no such note");
        }
        return plan.tuneNote(i);
    }

    public int change(int i) throws NoSuchElementException {
        checkChange(i);
        return state.changeAt(i);
    }

    public int days(int many) {
        if (many < 1 || many > 30 || state.day() + many > LAST_DAY) {
            return refuseAct(NONE);
        }
        beginAct();
        for (int i = 0; i < many; i++) {
            state.passDay(plan, plan.weatherOn(state.day()));
        }
        return state.day();
    }

    public int hang(int root, int hook) throws NoSuchElementException {
        checkRoot(root);
        checkHook(hook);
        int was = state.placeOf(root);
        if (was == GONE || state.rootOn(hook, plan.roots) != NONE) {
            return refuseAct(REFUSED);
        }
        beginAct();
        state.setPlace(root, hook);
        return was;
    }

    public int take(int root) throws NoSuchElementException {
        checkRoot(root);
        int was = state.placeOf(root);
        if (was < 0) {
            return refuseAct(NONE);
        }
        beginAct();
        state.setPlace(root, GARDEN);
        return was;
    }

    public int hollow(int root, int much) throws NoSuchElementException {
        checkRoot(root);
        if (much < 1 || much > state.roomToHollow(root)) {
            return refuseAct(NONE);
        }
        beginAct();
        state.setHollow(root, state.hollowOf(root) + much);
        return state.noteOf(plan, root, 0);
    }

    public boolean eat(int root) throws NoSuchElementException {
        checkRoot(root);
        if (state.placeOf(root) == GONE) {
            refusals[1]++;
            return false;
        }
        beginAct();
        state.setPlace(root, GONE);
        return true;
    }

    public int alter(int i, int change) throws NoSuchElementException {
        checkChange(i);
        if (!isChangeNumber(change)) {
            return refuseAct(NONE);
        }
        int was = state.changeAt(i);
        beginAct();
        state.setChange(i, change);
        return was;
    }

    public int undo() {
        if (!acts.undoInto(state)) {
            return NONE;
        }
        forgetWork();
        return acts.many();
    }

    public int then(int root, int days) throws NoSuchElementException, IllegalArgumentException {
        checkRoot(root);
        checkFar(days);
        course.layTo(plan, state, days);
        return course.noteOn(days, root);
    }

    public int goes(int root) throws NoSuchElementException {
        checkRoot(root);
        course.layTo(plan, state, FAR);
        return goingOf(root);
    }

    public boolean rings(int days) throws IllegalArgumentException {
        checkFar(days);
        course.layTo(plan, state, days);
        return plan.isTuneIn(course.noteBits(days, course.soundingOn(days)));
    }

    public int last() {
        course.layTo(plan, state, FAR);
        return lastDayAmong(~0);
    }

    public int soft() {
        course.layTo(plan, state, FAR);
        int first = NONE;
        int least = FAR + 1;
        for (int root = 0; root < plan.roots; root++) {
            int going = goingOf(root);
            if (going != NONE && going < least) {
                least = going;
                first = root;
            }
        }
        return first;
    }

    public int order(int i) throws NoSuchElementException {
        course.layTo(plan, state, FAR);
        int hanging = hangingBits();
        for (int root = 0; root < plan.roots; root++) {
            if ((hanging >> root & 1) == 1 && goingBefore(root, hanging) == i) {
                return root;
            }
        }
        throw new NoSuchElementException("not so many hang");
    }

    public int row(int changes) throws IllegalArgumentException {
        checkChanges(changes);
        ringing.load(plan, state);
        return ringing.numberBehind(changes);
    }

    public int at(int changes, int place) throws NoSuchElementException, IllegalArgumentException {
        checkChanges(changes);
        ringing.load(plan, state);
        if (place < 0 || place >= ringing.bells()) {
            throw new NoSuchElementException("no such place in the row");
        }
        return ringing.rootAt(changes, place);
    }

    public int length() {
        if (plan.changes == 0) {
            return NONE;
        }
        ringing.load(plan, state);
        return ringing.lengthRung();
    }

    public boolean isTrue() {
        if (plan.changes == 0) {
            return true;
        }
        ringing.load(plan, state);
        return ringing.trueLength() > 0;
    }

    public int longer() {
        if (plan.changes == 0) {
            return NONE;
        }
        ringing.load(plan, state);
        return ringing.longerBy();
    }

    public int fit(int i) throws NoSuchElementException {
        if (i < NONE || i >= plan.tuneNotes) {
            throw new NoSuchElementException("the tune has no such note");
        }
        fitting.workOut(plan, state);
        return i == NONE ? fitting.total() : fitting.rootFor(i);
    }

    public int keepers() {
        int sounding = soundingNow();
        int missing = plan.tuneBits;
        int bits = 0;
        // A ROOT has one NOTE alone, so that the least ROOT of each NOTE makes both the fewest and the least.
        for (int root = 0; root < plan.roots; root++) {
            int note = course.noteBits(0, sounding & 1 << root);
            if ((missing & note) != 0) {
                missing &= ~note;
                bits |= 1 << root;
            }
        }
        return missing == 0 ? bits : NONE;
    }

    public int earliest() {
        for (int day = 0; day <= FAR; day++) {
            course.layTo(plan, state, day);
            if (plan.isTuneIn(course.noteBits(day, course.firmOn(day)))) {
                return day;
            }
        }
        return NONE;
    }

    public int hear(int days, int note, boolean sounds) {
        if (days < 0 || days > HEARING || !isNote(note) || !heard.add(days, note, sounds)) {
            refusals[2]++;
            return NONE;
        }
        return heard.many();
    }

    public void forget() {
        heard.clear();
    }

    public int eaten(int what) throws NoSuchElementException {
        if (what < 0 || what > 2) {
            throw new NoSuchElementException("no such answer of what was eaten");
        }
        course.layTo(plan, state, HEARING);
        if (what == 2) {
            return guess.agrees(course, heard, 0, 0) ? 1 : 0;
        }
        guess.find(course, heard, plan.roots, bitsAt(GONE));
        return what == 0 ? guess.many() : guess.first();
    }

    public int next(int what) throws NoSuchElementException {
        checkTwo(what);
        course.layTo(plan, state, HEARING);
        guess.find(course, heard, plan.roots, bitsAt(GONE));
        guess.findDay(course);
        return what == 0 ? guess.tellingDay() : guess.tellingSets();
    }

    public int game(int root, int other, int what) throws NoSuchElementException, IllegalArgumentException {
        checkRoot(root);
        checkRoot(other);
        checkTwo(what);
        if (root == other || state.placeOf(root) < 0 || state.placeOf(other) < 0) {
            throw new IllegalArgumentException("it takes two that hang");
        }
        int many = 0;
        int first = NONE;
        int mostMine = mostChoice(root);
        int mostOthers = mostChoice(other);
        for (int mine = 0; mine <= mostMine; mine++) {
            for (int others = 0; others <= mostOthers; others++) {
                if (isContent(root, mine, other, others) && isContent(other, others, root, mine)) {
                    first = many == 0 ? 10 * mine + others : first;
                    many++;
                }
            }
        }
        return what == 0 ? many : first;
    }

    public int towers(int seed, int n, int what) throws NoSuchElementException, IllegalArgumentException {
        if (what < 0 || what > 2) {
            throw new NoSuchElementException("no such answer of towers");
        }
        checkFar(n);
        wilds.begin(state, seed);
        for (int i = 0; i < n; i++) {
            wilds.passDrawnDay(plan);
        }
        return what == 0 ? wilds.sounding(plan) : what == 1 ? wilds.gone(plan) : wilds.sizeInGarden(plan);
    }

    public int needed(int root, int note) throws NoSuchElementException {
        checkRoot(root);
        checkNote(note);
        return state.neededFor(plan, root, note);
    }

    public int grown(int root, int note) throws NoSuchElementException {
        checkRoot(root);
        checkNote(note);
        if (state.placeOf(root) != GARDEN) {
            return NONE;
        }
        for (int day = 0; day <= FAR; day++) {
            course.layTo(plan, state, day);
            if (course.noteOn(day, root) == note) {
                return day;
            }
        }
        return NONE;
    }

    public int scale(int what) throws NoSuchElementException {
        checkTwo(what);
        int notes = course.noteBits(0, soundingNow());
        int most = 0;
        int lowest = NONE;
        int run = 0;
        for (int note = 0; note < NOTES; note++) {
            run = (notes >> note & 1) == 1 ? run + 1 : 0;
            if (run > most) {
                most = run;
                lowest = note - run + 1;
            }
        }
        return what == 0 ? most : lowest;
    }

    public int mouth(int what) throws NoSuchElementException {
        checkTwo(what);
        int sounding = soundingNow();
        int best = NONE;
        for (int root = 0; root < plan.roots; root++) {
            if ((sounding >> root & 1) == 1 && (best == NONE || isBeyond(root, best, what))) {
                best = root;
            }
        }
        return best;
    }

    public int leads(int root) throws NoSuchElementException {
        checkRoot(root);
        if (plan.changes == 0) {
            return 0;
        }
        ringing.load(plan, state);
        return ringing.leadsOf(root);
    }

    public int meets(int root, int other) throws NoSuchElementException {
        checkRoot(root);
        checkRoot(other);
        if (plan.changes == 0 || root == other) {
            return 0;
        }
        ringing.load(plan, state);
        return ringing.meetingsOf(root, other);
    }

    public int without(int root) throws NoSuchElementException {
        checkRoot(root);
        course.layTo(plan, state, FAR);
        return lastDayAmong(~(1 << root));
    }

    public int often(int note) throws NoSuchElementException {
        checkNote(note);
        course.layTo(plan, state, FAR);
        int many = 0;
        for (int day = 1; day <= FAR; day++) {
            many += course.noteBits(day, course.soundingOn(day)) >> note & 1;
        }
        return many;
    }

    public int spare() {
        int sounding = soundingNow();
        int bits = 0;
        for (int root = 0; root < plan.roots; root++) {
            int one = 1 << root;
            if ((sounding & one) != 0 && plan.isTuneIn(course.noteBits(0, sounding & ~one))) {
                bits |= one;
            }
        }
        return bits;
    }

    public void image() {
        imageState.copyFrom(state);
        imageActs.copyFrom(acts);
        imageHeard.copyFrom(heard);
        imaged = true;
    }

    public boolean restore() {
        if (!imaged) {
            return false;
        }
        state.copyFrom(imageState);
        acts.copyFrom(imageActs);
        heard.copyFrom(imageHeard);
        forgetWork();
        return true;
    }

    private void beginAct() {
        acts.keep(state);
        forgetWork();
    }

    /** What was worked out of the STATE ahead of a change holds no more. */
    private void forgetWork() {
        course.clear();
        fitting.clear();
    }

    private int refuseAct(int answer) {
        refusals[1]++;
        return answer;
    }

    private void checkRoot(int root) {
        if (root < 0 || root >= plan.roots) {
            throw new NoSuchElementException("no such root");
        }
    }

    private void checkHook(int hook) {
        if (hook < 0 || hook >= HOOKS) {
            throw new NoSuchElementException("no such hook");
        }
    }

    private void checkNote(int note) {
        if (!isNote(note)) {
            throw new NoSuchElementException("no such note");
        }
    }

    private void checkChange(int i) {
        if (i < 0 || i >= plan.changes) {
            throw new NoSuchElementException("the method has no such change");
        }
    }

    private void checkTwo(int what) {
        if (what < 0 || what > 1) {
            throw new NoSuchElementException("no such answer");
        }
    }

    private void checkFar(int days) {
        if (days < 0 || days > FAR) {
            throw new IllegalArgumentException("not 0 to 60 days");
        }
    }

    private void checkChanges(int changes) {
        if (changes < 0 || changes > 999 || plan.changes == 0) {
            throw new IllegalArgumentException("not 0 to 999 changes, or no method");
        }
    }

    private static boolean isNote(int note) {
        return note >= 0 && note < NOTES;
    }

    private static boolean isChangeNumber(int number) {
        return number >= 0 && number < CHANGE_NUMBERS && (number & number >> 1) == 0;
    }

    private static int within(int value, int most) {
        return Math.max(0, Math.min(value, most));
    }

    private int bitsAt(int place) {
        int bits = 0;
        for (int root = 0; root < plan.roots; root++) {
            bits |= state.placeOf(root) == place ? 1 << root : 0;
        }
        return bits;
    }

    private int hangingBits() {
        return (1 << plan.roots) - 1 & ~bitsAt(GARDEN) & ~bitsAt(GONE);
    }

    private int soundingNow() {
        course.layTo(plan, state, 0);
        return course.soundingOn(0);
    }

    private int goingOf(int root) {
        if (state.placeOf(root) < 0) {
            return NONE;
        }
        for (int day = 0; day <= FAR; day++) {
            if ((course.soundingOn(day) >> root & 1) == 0) {
                return day;
            }
        }
        return NONE;
    }

    private int goingRank(int root) {
        int going = goingOf(root);
        return (going == NONE ? FAR + 1 : going) * MOST_ROOTS + root;
    }

    private int goingBefore(int root, int hanging) {
        int rank = goingRank(root);
        int many = 0;
        for (int other = 0; other < plan.roots; other++) {
            if ((hanging >> other & 1) == 1 && goingRank(other) < rank) {
                many++;
            }
        }
        return many;
    }

    private int lastDayAmong(int roots) {
        for (int day = FAR; day >= 0; day--) {
            int sounding = course.soundingOn(day) & roots;
            if (plan.isTuneIn(course.noteBits(day, sounding))) {
                return day;
            }
        }
        return NONE;
    }

    private boolean isBeyond(int root, int best, int what) {
        int more = course.noteOn(0, root) - course.noteOn(0, best);
        return what == 0 ? more < 0 : more > 0;
    }

    private int mostChoice(int root) {
        return state.roomToHollow(root) > 0 ? 1 : 0;
    }

    private boolean isContent(int root, int mine, int other, int others) {
        return mostChoice(root) == 0
            || gainOf(root, 1 - mine, other, others) <= gainOf(root, mine, other, others);
    }

    private int gainOf(int root, int mine, int other, int others) {
        int note = state.noteOf(plan, root, mine);
        int clash = note == state.noteOf(plan, other, others) ? 2 : 0;
        return plan.nearnessOf(note) - clash - mine;
    }

    /** An EXPR as a row of steps over a stack, so that it is worked out without recursion and without new objects. */
    private static final class Rule {
        static final int NUMBER = 1;
        static final int VALUE = 2;
        /** Of a sign the tens tell how close it binds. */
        static final int OPEN = 0;
        static final int OR = 10;
        static final int AND = 20;
        static final int NOT = 30;
        static final int LESS = 40;
        static final int SAME = 41;
        static final int PLUS = 50;
        static final int MINUS = 51;
        static final int TIMES = 60;
        static final int BY = 61;
        /** Six EXPRs within each other, in each at most five operands that wait, and one more. */
        private static final int MOST_OPERANDS = 40;
        /** Six EXPRs within each other, in each at most five signs that wait, six NOTs and a parenthesis. */
        private static final int MOST_WAITING = 80;

        private final int[] steps = new int[MOST_BYTES];
        private final int[] operands = new int[MOST_BYTES];
        private final int[] waiting = new int[MOST_WAITING];
        private final int[] values = new int[7];
        private final int[] stack = new int[MOST_OPERANDS];
        private int many = 0;
        private int waits = 0;

        void clear() {
            many = 0;
            waits = 0;
        }

        boolean isTold() {
            return many > 0;
        }

        void putOperand(int step, int operand) {
            if (many >= 0 && many < steps.length && many < operands.length) {
                steps[many] = step;
                operands[many] = operand;
                many++;
            }
        }

        /** A sign waits until its right side is whole, which one that binds no closer tells. */
        void join(int sign) {
            if (sign != NOT && sign != OPEN) {
                putWaiting(sign / 10);
            }
            if (waits >= 0 && waits < waiting.length) {
                waiting[waits] = sign;
                waits++;
            }
        }

        void close() {
            putWaiting(OR / 10);
            if (waits > 0) {
                waits--;
            }
        }

        void finish() {
            putWaiting(OR / 10);
        }

        /** Those that bind as close as that, or closer. */
        private void putWaiting(int least) {
            while (waits > 0 && waits <= waiting.length && waiting[waits - 1] / 10 >= least) {
                waits--;
                if (many >= 0 && many < steps.length) {
                    steps[many] = waiting[waits];
                    many++;
                }
            }
        }

        int worth(int size, int hollow, int kind, int softness, int weather, int day, int hung) {
            values[0] = size;
            values[1] = hollow;
            values[2] = kind;
            values[3] = softness;
            values[4] = weather;
            values[5] = day;
            values[6] = hung;
            int top = 0;
            for (int i = 0; i < many && i < steps.length; i++) {
                int step = steps[i];
                if (step == NUMBER || step == VALUE) {
                    if (top >= 0 && top < stack.length) {
                        stack[top] = operandAt(i);
                        top++;
                    }
                } else if (step == NOT) {
                    if (top >= 1 && top <= stack.length) {
                        stack[top - 1] = stack[top - 1] == 0 ? 1 : 0;
                    }
                } else if (top >= 2 && top <= stack.length) {
                    top--;
                    stack[top - 1] = joined(step, stack[top - 1], stack[top]);
                }
            }
            return stack[0];
        }

        private int operandAt(int i) {
            if (i < 0 || i >= operands.length || i >= steps.length) {
                return 0;
            }
            int operand = operands[i];
            if (steps[i] == NUMBER) {
                return operand;
            }
            return operand >= 0 && operand < values.length ? values[operand] : 0;
        }

        private static int joined(int step, int a, int b) {
            switch (step) {
                case OR: return a != 0 || b != 0 ? 1 : 0;
                case AND: return a != 0 && b != 0 ? 1 : 0;
                case LESS: return a < b ? 1 : 0;
                case SAME: return a == b ? 1 : 0;
                case PLUS: return a + b;
                case MINUS: return a - b;
                case TIMES: return a * b;
                case BY: return b == 0 ? 0 : a / b;
                default: return 0;
            }
        }
    }

    /** What a TEXT tells: all that no ACT changes, and the STATE at the start. */
    private static final class Plan {
        private final int[] kinds = new int[MOST_ROOTS];
        private final int[] weather = new int[MOST_WEATHER];
        private final int[] tuneRow = new int[MOST_TUNE];
        int roots = 0;
        int weathers = 0;
        int lasting = 20;
        int tuneNotes = 0;
        int tuneBits = 0;
        int changes = 0;
        final Rule noteRule = new Rule();
        final Rule growsRule = new Rule();
        final State start = new State();

        void clear() {
            roots = 0;
            weathers = 0;
            lasting = 20;
            tuneNotes = 0;
            tuneBits = 0;
            changes = 0;
            noteRule.clear();
            growsRule.clear();
            start.clear();
        }

        void addRoot(int kind, int size, int hollow, int place) {
            if (roots >= 0 && roots < kinds.length) {
                kinds[roots] = kind;
                start.setRoot(roots, size, hollow, place);
                roots++;
            }
        }

        void addWeather(int number) {
            if (weathers >= 0 && weathers < weather.length) {
                weather[weathers] = number;
                weathers++;
            }
        }

        void addTuneNote(int note) {
            if (tuneNotes >= 0 && tuneNotes < tuneRow.length) {
                tuneRow[tuneNotes] = note;
                tuneBits |= 1 << note;
                tuneNotes++;
            }
        }

        void addChange(int change) {
            if (changes < MOST_CHANGES) {
                start.setChange(changes, change);
                changes++;
            }
        }

        int kindOf(int root) {
            return root >= 0 && root < kinds.length ? kinds[root] : 0;
        }

        int tuneNote(int i) {
            return i >= 0 && i < tuneRow.length ? tuneRow[i] : 0;
        }

        int weatherOn(int day) {
            if (weathers <= 0 || day < 0) {
                return 4;
            }
            int i = day % weathers;
            return i < weather.length ? weather[i] : 4;
        }

        boolean isTuneIn(int noteBits) {
            return (tuneBits & ~noteBits) == 0;
        }

        int nearnessOf(int note) {
            int nearness = 0;
            for (int i = 0; i < tuneNotes; i++) {
                nearness = Math.max(nearness, 4 - Math.abs(note - tuneNote(i)));
            }
            return nearness;
        }
    }

    /** All that ACTS change, in one row of cells, so that it is kept and brought back at once. */
    private static final class State {
        private static final int DAY = 0;
        private static final int SIZE = 1;
        private static final int HOLLOW = SIZE + MOST_ROOTS;
        private static final int SOFTNESS = HOLLOW + MOST_ROOTS;
        private static final int PLACE = SOFTNESS + MOST_ROOTS;
        private static final int CHANGE = PLACE + MOST_ROOTS;
        static final int CELLS = CHANGE + MOST_CHANGES;

        private final int[] cells = new int[CELLS];

        void clear() {
            for (int i = 0; i < cells.length; i++) {
                cells[i] = 0;
            }
        }

        void copyFrom(State other) {
            System.arraycopy(other.cells, 0, cells, 0, CELLS);
        }

        void saveTo(int[] row, int from) {
            if (from >= 0 && from <= row.length - CELLS) {
                System.arraycopy(cells, 0, row, from, CELLS);
            }
        }

        void loadFrom(int[] row, int from) {
            if (from >= 0 && from <= row.length - CELLS) {
                System.arraycopy(row, from, cells, 0, CELLS);
            }
        }

        private int cell(int group, int i) {
            int at = group + i;
            return at >= 0 && at < cells.length ? cells[at] : 0;
        }

        private void setCell(int group, int i, int value) {
            int at = group + i;
            if (at >= 0 && at < cells.length) {
                cells[at] = value;
            }
        }

        int day() {
            return cell(DAY, 0);
        }

        int sizeOf(int root) {
            return cell(SIZE, root);
        }

        int hollowOf(int root) {
            return cell(HOLLOW, root);
        }

        int softnessOf(int root) {
            return cell(SOFTNESS, root);
        }

        int placeOf(int root) {
            return cell(PLACE, root);
        }

        int changeAt(int i) {
            return cell(CHANGE, i);
        }

        void setRoot(int root, int size, int hollow, int place) {
            setCell(SIZE, root, size);
            setCell(HOLLOW, root, hollow);
            setCell(SOFTNESS, root, 0);
            setCell(PLACE, root, place);
        }

        void setHollow(int root, int hollow) {
            setCell(HOLLOW, root, hollow);
        }

        void setPlace(int root, int place) {
            setCell(PLACE, root, place);
        }

        void setChange(int i, int change) {
            setCell(CHANGE, i, change);
        }

        int rootOn(int hook, int roots) {
            for (int root = 0; root < roots; root++) {
                if (placeOf(root) == hook) {
                    return root;
                }
            }
            return NONE;
        }

        int roomToHollow(int root) {
            if (placeOf(root) == GONE) {
                return 0;
            }
            int hollow = hollowOf(root);
            return Math.min(MOST_HOLLOW - hollow, sizeOf(root) - 1 - hollow);
        }

        /** The NOTE that it has, were it HOLLOWED by so much more. */
        int noteOf(Plan plan, int root, int more) {
            Rule rule = plan.noteRule;
            if (rule.isTold()) {
                int weather = plan.weatherOn(day());
                int worth = rule.worth(sizeOf(root), hollowOf(root) + more, plan.kindOf(root),
                    softnessOf(root), weather, day(), placeOf(root) >= 0 ? 1 : 0);
                return within(worth, NOTES - 1);
            }
            int flesh = sizeOf(root) - hollowOf(root) - more;
            return Math.max(0, 15 - flesh / 2);
        }

        int neededFor(Plan plan, int root, int note) {
            if (placeOf(root) == GONE) {
                return NONE;
            }
            int room = roomToHollow(root);
            for (int more = 0; more <= room; more++) {
                if (noteOf(plan, root, more) == note) {
                    return more;
                }
            }
            return NONE;
        }

        void passDay(Plan plan, int weather) {
            for (int root = 0; root < plan.roots; root++) {
                int place = placeOf(root);
                if (place == GARDEN) {
                    int size = sizeOf(root) + growthOf(plan, root, weather);
                    setCell(SIZE, root, Math.min(size, MOST_SIZE));
                } else if (place >= 0) {
                    soften(root, 1 + weather / 2);
                }
            }
            setCell(DAY, 0, day() + 1);
        }

        void soften(int root, int much) {
            setCell(SOFTNESS, root, Math.min(softnessOf(root) + much, MOST_SOFTNESS));
        }

        private int growthOf(Plan plan, int root, int weather) {
            Rule rule = plan.growsRule;
            if (rule.isTold()) {
                int worth = rule.worth(sizeOf(root), hollowOf(root), plan.kindOf(root),
                    softnessOf(root), weather, day(), placeOf(root) >= 0 ? 1 : 0);
                return within(worth, 9);
            }
            return weather < 5 ? 1 : 0;
        }
    }

    /** The latest ACTS, each as the STATE ahead of it, in a ring of rows. */
    private static final class Acts {
        private final int[] rows = new int[MOST_ACTS * State.CELLS];
        private int oldest = 0;
        private int many = 0;

        int many() {
            return many;
        }

        void clear() {
            oldest = 0;
            many = 0;
        }

        void copyFrom(Acts other) {
            System.arraycopy(other.rows, 0, rows, 0, MOST_ACTS * State.CELLS);
            oldest = other.oldest;
            many = other.many;
        }

        void keep(State state) {
            state.saveTo(rows, (oldest + many) % MOST_ACTS * State.CELLS);
            if (many < MOST_ACTS) {
                many++;
            } else {
                oldest = (oldest + 1) % MOST_ACTS;
            }
        }

        boolean undoInto(State state) {
            if (many <= 0) {
                return false;
            }
            many--;
            state.loadFrom(rows, (oldest + many) % MOST_ACTS * State.CELLS);
            return true;
        }
    }

    /** What is HEARD: by day, NOTE, and whether it SOUNDS. */
    private static final class Heard {
        private final int[] days = new int[MOST_HEARD];
        private final int[] notes = new int[MOST_HEARD];
        private final int[] sounds = new int[MOST_HEARD];
        private int many = 0;

        int many() {
            return many;
        }

        void clear() {
            many = 0;
        }

        void copyFrom(Heard other) {
            System.arraycopy(other.days, 0, days, 0, MOST_HEARD);
            System.arraycopy(other.notes, 0, notes, 0, MOST_HEARD);
            System.arraycopy(other.sounds, 0, sounds, 0, MOST_HEARD);
            many = other.many;
        }

        boolean add(int day, int note, boolean sounding) {
            if (many < 0 || many >= MOST_HEARD) {
                return false;
            }
            days[many] = day;
            notes[many] = note;
            sounds[many] = sounding ? 1 : 0;
            many++;
            return true;
        }

        int dayOf(int i) {
            return i >= 0 && i < days.length ? days[i] : 0;
        }

        boolean isSo(int i, int noteBits) {
            return i >= 0 && i < notes.length && i < sounds.length
                && (noteBits >> notes[i] & 1) == sounds[i];
        }
    }

    /** What would be, if only DAYS went by from now on; it is kept until the STATE changes. */
    private static final class Course {
        private final State walker = new State();
        private final int[] notes = new int[(FAR + 1) * MOST_ROOTS];
        private final int[] sounding = new int[FAR + 1];
        private final int[] firm = new int[FAR + 1];
        private int laid = 0;

        void clear() {
            laid = 0;
        }

        void layTo(Plan plan, State now, int days) {
            if (laid == 0) {
                walker.copyFrom(now);
            }
            for (int day = laid; day <= days && day <= FAR; day++) {
                if (day > 0) {
                    walker.passDay(plan, plan.weatherOn(walker.day()));
                }
                layDay(plan, day);
                laid = day + 1;
            }
        }

        private void layDay(Plan plan, int day) {
            if (day < 0 || day >= sounding.length || day >= firm.length) {
                return;
            }
            int hanging = 0;
            int whole = 0;
            for (int root = 0; root < plan.roots; root++) {
                int place = walker.placeOf(root);
                hanging |= place >= 0 ? 1 << root : 0;
                whole |= place != GONE && walker.softnessOf(root) < plan.lasting ? 1 << root : 0;
                setNote(day, root, walker.noteOf(plan, root, 0));
            }
            sounding[day] = hanging & whole;
            firm[day] = whole;
        }

        private void setNote(int day, int root, int note) {
            int at = day * MOST_ROOTS + root;
            if (at >= 0 && at < notes.length) {
                notes[at] = note;
            }
        }

        int noteOn(int day, int root) {
            int at = day * MOST_ROOTS + root;
            return at >= 0 && at < notes.length ? notes[at] : 0;
        }

        int soundingOn(int day) {
            return day >= 0 && day < sounding.length ? sounding[day] : 0;
        }

        /** Those that are neither EATEN nor SOFT, whether they hang or not. */
        int firmOn(int day) {
            return day >= 0 && day < firm.length ? firm[day] : 0;
        }

        int noteBits(int day, int roots) {
            int bits = 0;
            for (int root = 0; root < MOST_ROOTS; root++) {
                if ((roots >> root & 1) == 1) {
                    bits |= 1 << noteOn(day, root);
                }
            }
            return bits;
        }
    }

    /** The METHOD on the BELLS. A row has three bits a place, place 0 lowest, so that a row is one number. */
    private static final class Ringing {
        private static final int ROUNDS = 1 << 3 | 2 << 6 | 3 << 9 | 4 << 12 | 5 << 15;
        /** No order of six BELLS takes more than six turns to come home. */
        private static final int LONGEST = 6 * MOST_CHANGES;

        private final int[] bellRoots = new int[HOOKS];
        private final int[] changes = new int[MOST_CHANGES];
        private final int[] rows = new int[LONGEST];
        private int bells = 0;
        private int many = 0;

        void load(Plan plan, State state) {
            bells = 0;
            for (int hook = 0; hook < HOOKS; hook++) {
                int root = state.rootOn(hook, plan.roots);
                if (root != NONE && bells >= 0 && bells < bellRoots.length) {
                    bellRoots[bells] = root;
                    bells++;
                }
            }
            many = plan.changes;
            for (int i = 0; i < changes.length; i++) {
                changes[i] = state.changeAt(i);
            }
        }

        int bells() {
            return bells;
        }

        private static int bellAt(int row, int place) {
            return row >> 3 * place & 7;
        }

        private int behindOne(int row, int i) {
            if (many <= 0 || i < 0 || i % many >= changes.length) {
                return row;
            }
            int change = changes[i % many];
            int changed = row;
            for (int place = 0; place + 1 < bells; place++) {
                if ((change >> place & 1) == 1) {
                    int unlike = bellAt(changed, place) ^ bellAt(changed, place + 1);
                    changed ^= (unlike | unlike << 3) << 3 * place;
                }
            }
            return changed;
        }

        private int rowBehind(int count) {
            int row = ROUNDS;
            for (int i = 0; i < count; i++) {
                row = behindOne(row, i);
            }
            return row;
        }

        int numberBehind(int count) {
            int row = rowBehind(count);
            int number = 0;
            for (int place = 0; place < bells; place++) {
                number = 10 * number + bellAt(row, place);
            }
            return number;
        }

        int rootAt(int count, int place) {
            int bell = bellAt(rowBehind(count), place);
            return bell < bellRoots.length ? bellRoots[bell] : NONE;
        }

        int lengthRung() {
            int row = ROUNDS;
            for (int i = 0; i < LONGEST; i++) {
                row = behindOne(row, i);
                if (row == ROUNDS) {
                    return i + 1;
                }
            }
            return LONGEST;
        }

        /** LENGTH, if the METHOD is TRUE, else 0. */
        int trueLength() {
            int row = ROUNDS;
            for (int i = 0; i < LONGEST && i < rows.length; i++) {
                rows[i] = row;
                row = behindOne(row, i);
                if (row == ROUNDS) {
                    return i + 1;
                }
                if (isRung(row, i)) {
                    return 0;
                }
            }
            return 0;
        }

        private boolean isRung(int row, int upTo) {
            for (int i = upTo; i >= 0; i--) {
                if (i < rows.length && rows[i] == row) {
                    return true;
                }
            }
            return false;
        }

        int longerBy() {
            int most = trueLength();
            int answer = NONE;
            for (int i = 0; i < many && i < changes.length; i++) {
                int own = changes[i];
                for (int number = 0; number < CHANGE_NUMBERS; number++) {
                    if (number != own && isChangeNumber(number)) {
                        changes[i] = number;
                        int length = trueLength();
                        if (length > most) {
                            most = length;
                            answer = 100 * i + number;
                        }
                    }
                }
                changes[i] = own;
            }
            return answer;
        }

        private int bellOf(int root) {
            for (int bell = 0; bell < bells && bell < bellRoots.length; bell++) {
                if (bellRoots[bell] == root) {
                    return bell;
                }
            }
            return NONE;
        }

        private int placeIn(int row, int bell) {
            for (int place = 0; place < bells; place++) {
                if (bellAt(row, place) == bell) {
                    return place;
                }
            }
            return NONE;
        }

        int leadsOf(int root) {
            int bell = bellOf(root);
            int length = lengthRung();
            int row = ROUNDS;
            int leading = 0;
            for (int i = 0; i < length; i++) {
                leading += bellAt(row, 0) == bell ? 1 : 0;
                row = behindOne(row, i);
            }
            return leading;
        }

        int meetingsOf(int root, int other) {
            int one = bellOf(root);
            int two = bellOf(other);
            if (one == NONE || two == NONE) {
                return 0;
            }
            int length = lengthRung();
            int row = ROUNDS;
            int meetings = 0;
            for (int i = 0; i < length; i++) {
                meetings += Math.abs(placeIn(row, one) - placeIn(row, two)) == 1 ? 1 : 0;
                row = behindOne(row, i);
            }
            return meetings;
        }
    }

    /** FIT, by the least of what is left to do behind each set of ROOTS that are used. */
    private static final class Fitting {
        private static final int NEVER = 1000000;

        private final int[] needs = new int[MOST_TUNE * MOST_ROOTS];
        private final int[] least = new int[1 << MOST_ROOTS];
        private int notes = 0;
        private int roots = 0;
        private boolean worked = false;

        void clear() {
            worked = false;
        }

        void workOut(Plan plan, State state) {
            if (worked) {
                return;
            }
            worked = true;
            notes = plan.tuneNotes;
            roots = plan.roots;
            for (int i = 0; i < needs.length; i++) {
                needs[i] = NEVER;
            }
            for (int root = 0; root < roots; root++) {
                if (state.placeOf(root) != GONE) {
                    findNeeds(plan, state, root);
                }
            }
            for (int used = (1 << roots) - 1; used >= 0; used--) {
                if (used < least.length) {
                    least[used] = leastBehind(used);
                }
            }
        }

        private void findNeeds(Plan plan, State state, int root) {
            for (int more = state.roomToHollow(root); more >= 0; more--) {
                int note = state.noteOf(plan, root, more);
                for (int i = 0; i < notes; i++) {
                    int at = i * MOST_ROOTS + root;
                    if (plan.tuneNote(i) == note && at >= 0 && at < needs.length) {
                        needs[at] = more;
                    }
                }
            }
        }

        private int leastBehind(int used) {
            int i = Integer.bitCount(used);
            if (i >= notes) {
                return i == notes ? 0 : NEVER;
            }
            int best = NEVER;
            for (int root = 0; root < roots; root++) {
                best = Math.min(best, leastBy(i, root, used));
            }
            return best;
        }

        private int leastBy(int i, int root, int used) {
            int at = i * MOST_ROOTS + root;
            int then = used | 1 << root;
            if (then == used || at < 0 || at >= needs.length || then < 0 || then >= least.length) {
                return NEVER;
            }
            return Math.min(NEVER, needs[at] + least[then]);
        }

        int total() {
            return least[0] >= NEVER ? REFUSED : least[0];
        }

        int rootFor(int i) {
            if (least[0] >= NEVER) {
                return REFUSED;
            }
            int used = 0;
            int chosen = REFUSED;
            for (int note = 0; note <= i; note++) {
                chosen = firstBest(note, used);
                used |= chosen >= 0 ? 1 << chosen : 0;
            }
            return chosen;
        }

        private int firstBest(int i, int used) {
            int best = used >= 0 && used < least.length ? least[used] : NEVER;
            for (int root = 0; root < roots; root++) {
                if (best < NEVER && leastBy(i, root, used) == best) {
                    return root;
                }
            }
            return REFUSED;
        }
    }

    /** Which ROOT may have been EATEN on which DAY by what is HEARD, and the DAY that tells most. */
    private static final class Guess {
        /** Of each ROOT the DAYS, as bits, on which it may have been EATEN. */
        private final int[] meals = new int[MOST_ROOTS];
        private final int[] sets = new int[MOST_ROOTS + 1];
        private int many = 0;
        private int first = NONE;
        private int telling = NONE;
        private int unlike = 0;

        int many() {
            return many;
        }

        int first() {
            return first;
        }

        int tellingDay() {
            return telling;
        }

        int tellingSets() {
            return unlike;
        }

        void find(Course course, Heard heard, int roots, int gone) {
            many = 0;
            first = NONE;
            for (int root = 0; root < meals.length; root++) {
                meals[root] = 0;
                for (int day = 0; day < MEALS && root < roots && (gone >> root & 1) == 0; day++) {
                    if (agrees(course, heard, 1 << root, day)) {
                        meals[root] |= 1 << day;
                        first = many == 0 ? 10 * root + day : first;
                        many++;
                    }
                }
            }
        }

        /** Whether all that is HEARD is so, if the ROOTS of these bits are EATEN on that DAY. */
        boolean agrees(Course course, Heard heard, int eaten, int day) {
            int all = heard.many();
            for (int i = 0; i < all; i++) {
                int on = heard.dayOf(i);
                int sounding = course.soundingOn(on);
                int left = on >= day ? sounding & ~eaten : sounding;
                if (!heard.isSo(i, course.noteBits(on, left))) {
                    return false;
                }
            }
            return true;
        }

        void findDay(Course course) {
            telling = NONE;
            unlike = 0;
            for (int day = 0; day <= HEARING; day++) {
                int here = unlikeSets(course, day);
                if (here > unlike) {
                    unlike = here;
                    telling = day;
                }
            }
        }

        private int unlikeSets(Course course, int day) {
            int sounding = course.soundingOn(day);
            int till = (1 << Math.min(day + 1, MEALS)) - 1;
            boolean later = false;
            int found = 0;
            for (int root = 0; root < meals.length; root++) {
                if ((meals[root] & till) != 0) {
                    found = withSet(course.noteBits(day, sounding & ~(1 << root)), found);
                }
                later = later || (meals[root] & ~till) != 0;
            }
            return later ? withSet(course.noteBits(day, sounding), found) : found;
        }

        private int withSet(int notes, int found) {
            for (int i = 0; i < found && i < sets.length; i++) {
                if (sets[i] == notes) {
                    return found;
                }
            }
            if (found >= 0 && found < sets.length) {
                sets[found] = notes;
            }
            return found + 1;
        }
    }

    /** TOWERS by a seed. */
    private static final class Wilds {
        private final State wild = new State();
        private int seed = 0;

        void begin(State now, int sown) {
            wild.copyFrom(now);
            seed = sown;
        }

        private int draw(int n) {
            seed = seed * 1103515245 + 12345;
            return n > 0 ? (seed >>> 16 & 32767) % n : 0;
        }

        void passDrawnDay(Plan plan) {
            int event = draw(8);
            if (plan.roots > 0 && event <= 1) {
                int root = draw(plan.roots);
                int place = wild.placeOf(root);
                if (event == 0 && place == GARDEN) {
                    wild.setPlace(root, GONE);
                } else if (event == 1 && place >= 0) {
                    wild.soften(root, 9);
                }
            }
            wild.passDay(plan, draw(10));
        }

        int sounding(Plan plan) {
            int many = 0;
            for (int root = 0; root < plan.roots; root++) {
                many += wild.placeOf(root) >= 0 && wild.softnessOf(root) < plan.lasting ? 1 : 0;
            }
            return many;
        }

        int gone(Plan plan) {
            int many = 0;
            for (int root = 0; root < plan.roots; root++) {
                many += wild.placeOf(root) == GONE ? 1 : 0;
            }
            return many;
        }

        int sizeInGarden(Plan plan) {
            int size = 0;
            for (int root = 0; root < plan.roots; root++) {
                size += wild.placeOf(root) == GARDEN ? wild.sizeOf(root) : 0;
            }
            return size;
        }
    }

    /** Reads a TEXT, TOKEN by TOKEN, into a Plan; it stops at the first FAULT. */
    private static final class Reader {
        private static final int END = 0;
        private static final int WORD = 1;
        private static final int NUMBER = 2;
        private static final int SIGN = 3;
        private static final int STRANGE = 4;
        private static final int DEEPEST = 6;
        private static final int MOST_NOTS = 6;
        private static final int NO_PLACE = 1;
        private static final int TOO_MUCH = 2;
        private static final int NO_VALUE = 3;
        private static final int HOOK_TAKEN = 4;
        private static final int TOLD_TWICE = 5;
        private static final int WEATHER = 4;
        private static final int LASTS = 5;
        private static final int TUNE = 6;
        private static final int METHOD = 7;
        private static final int NOTE = 8;

        private static final int OPERATOR = 0;
        private static final int PART = 1;
        private static final int NOT_OR_PART = 2;

        private final byte[] tape = new byte[MOST_BYTES];
        private int taped = 0;
        private int end = 0;
        private int place = 0;
        private int kind = END;
        private int tokenAt = 0;
        private int sign = 0;
        private int digits = 0;
        private int number = 0;
        private int wrong = 0;
        private int told = 0;
        private Plan plan = new Plan();
        private Rule rule = plan.noteRule;
        /** What must stand next in an EXPR, how many parentheses are open, which of these have a test already (bits). */
        private int wanted = PART;
        private int parens = 0;
        private int tested = 0;
        private int nots = 0;

        int taped() {
            return taped;
        }

        void putBytes(int word) {
            for (int shift = 24; shift >= 0; shift -= 8) {
                if (taped >= 0 && taped < tape.length) {
                    tape[taped] = (byte) (word >>> shift);
                    taped++;
                }
            }
        }

        /** 0, or the FAULT; the tape is empty then. */
        int readTower(int bytes) {
            taped = 0;
            end = bytes;
            place = 0;
            wrong = 0;
            told = 0;
            plan.clear();
            step();
            boolean fine = true;
            for (int lines = 0; lines < MOST_BYTES && fine && kind != END; lines++) {
                fine = readLine();
            }
            return wrong;
        }

        /** What was read, for a Plan that is needed no more: the next text is read into that. */
        Plan handOver(Plan old) {
            Plan read = plan;
            plan = old;
            return read;
        }

        int faultPlace() {
            return tokenAt;
        }

        private boolean refuse(int fault) {
            wrong = fault;
            return false;
        }

        private int byteAt(int i) {
            return i >= 0 && i < end && i < tape.length ? tape[i] & 255 : 0;
        }

        private static boolean isBlank(int sign) {
            return sign == 32 || sign == 10;
        }

        private static boolean isLetter(int sign) {
            return sign >= 'a' && sign <= 'z';
        }

        private static boolean isDigit(int sign) {
            return sign >= '0' && sign <= '9';
        }

        private static boolean isSign(int sign) {
            return sign == ';' || sign == '(' || sign == ')' || sign == '+' || sign == '-'
                || sign == '*' || sign == '/' || sign == '<' || sign == '=';
        }

        /** Goes on to the next TOKEN. */
        private void step() {
            while (place < end && isBlank(byteAt(place))) {
                place++;
            }
            tokenAt = place;
            sign = byteAt(place);
            if (place >= end) {
                kind = END;
            } else if (isLetter(sign)) {
                kind = WORD;
                while (place < end && isLetter(byteAt(place))) {
                    place++;
                }
            } else if (isDigit(sign)) {
                kind = NUMBER;
                stepNumber();
            } else {
                kind = isSign(sign) ? SIGN : STRANGE;
                place++;
            }
        }

        private void stepNumber() {
            number = 0;
            digits = 0;
            while (place < end && isDigit(byteAt(place))) {
                digits++;
                number = digits <= 4 ? 10 * number + byteAt(place) - '0' : number;
                place++;
            }
        }

        private boolean isAtSign(int which) {
            return kind == SIGN && sign == which;
        }

        private boolean isAtWord(String word) {
            if (kind != WORD || place - tokenAt != word.length()) {
                return false;
            }
            for (int i = 0; i < word.length(); i++) {
                int at = tokenAt + i;
                if (at < 0 || at >= tape.length || tape[at] != word.charAt(i)) {
                    return false;
                }
            }
            return true;
        }

        private int lineWord() {
            return isAtWord("turnip") ? 0
                : isAtWord("swede") ? 1
                : isAtWord("mangold") ? 2
                : isAtWord("beet") ? 3
                : isAtWord("weather") ? WEATHER
                : isAtWord("lasts") ? LASTS
                : isAtWord("tune") ? TUNE
                : isAtWord("method") ? METHOD
                : isAtWord("note") ? NOTE
                : isAtWord("grows") ? NOTE + 1
                : NONE;
        }

        private int valueWord() {
            return isAtWord("size") ? 0
                : isAtWord("hollow") ? 1
                : isAtWord("kind") ? 2
                : isAtWord("soft") ? 3
                : isAtWord("weather") ? 4
                : isAtWord("day") ? 5
                : isAtWord("hung") ? 6
                : NONE;
        }

        private boolean readLine() {
            int word = lineWord();
            if (word == NONE) {
                return refuse(NO_PLACE);
            }
            if (word < WEATHER) {
                return readRoot(word) && readLineEnd();
            }
            if ((told >> word & 1) == 1) {
                return refuse(TOLD_TWICE);
            }
            told |= 1 << word;
            step();
            switch (word) {
                case WEATHER: return readRow(word, MOST_WEATHER, 9) && readLineEnd();
                case TUNE: return readRow(word, MOST_TUNE, NOTES - 1) && readLineEnd();
                case METHOD: return readRow(word, MOST_CHANGES, CHANGE_NUMBERS - 1) && readLineEnd();
                case LASTS: return readLasts() && readLineEnd();
                case NOTE: return readExpr(plan.noteRule) && readLineEnd();
                default: return readExpr(plan.growsRule) && readLineEnd();
            }
        }

        private boolean readLineEnd() {
            if (!isAtSign(';')) {
                return refuse(NO_PLACE);
            }
            step();
            return true;
        }

        private boolean checkNumber(int least, int most) {
            if (kind != NUMBER) {
                return refuse(NO_PLACE);
            }
            return digits <= 4 && number >= least && number <= most || refuse(TOO_MUCH);
        }

        private boolean readLasts() {
            if (!checkNumber(1, MOST_SOFTNESS)) {
                return false;
            }
            plan.lasting = number;
            step();
            return true;
        }

        private boolean readRow(int word, int most, int greatest) {
            if (kind != NUMBER) {
                return refuse(NO_PLACE);
            }
            for (int i = 0; i <= most && kind == NUMBER; i++) {
                if (i == most) {
                    return refuse(TOO_MUCH);
                }
                if (!checkNumber(0, greatest)) {
                    return false;
                }
                if (word == METHOD && !isChangeNumber(number)) {
                    return refuse(TOO_MUCH);
                }
                if (word == WEATHER) {
                    plan.addWeather(number);
                } else if (word == TUNE) {
                    plan.addTuneNote(number);
                } else {
                    plan.addChange(number);
                }
                step();
            }
            return true;
        }

        private boolean readRoot(int rootKind) {
            if (plan.roots >= MOST_ROOTS) {
                return refuse(TOO_MUCH);
            }
            step();
            if (!checkNumber(1, MOST_SIZE)) {
                return false;
            }
            int size = number;
            step();
            if (!checkNumber(0, Math.min(MOST_HOLLOW, size - 1))) {
                return false;
            }
            int hollow = number;
            step();
            int hook = GARDEN;
            if (kind == NUMBER) {
                if (!checkNumber(0, HOOKS - 1)) {
                    return false;
                }
                hook = number;
                if (plan.start.rootOn(hook, plan.roots) != NONE) {
                    return refuse(HOOK_TAKEN);
                }
                step();
            }
            plan.addRoot(rootKind, size, hollow, hook);
            return true;
        }

        /** Up to the sign behind it; the Rule puts the signs in the order in which they bind. */
        private boolean readExpr(Rule into) {
            rule = into;
            wanted = NOT_OR_PART;
            parens = 0;
            tested = 0;
            nots = 0;
            boolean fine = true;
            for (int i = 0; i < MOST_BYTES && fine && !isExprWhole(); i++) {
                fine = wanted == OPERATOR ? readOperator() : readOperand();
                if (fine) {
                    step();
                }
            }
            rule.finish();
            return fine;
        }

        private boolean isExprWhole() {
            return wanted == OPERATOR && parens == 0 && isAtSign(';');
        }

        private boolean readOperand() {
            if (parens >= DEEPEST) {
                return refuse(kind == NUMBER || kind == WORD || isAtSign('(') ? TOO_MUCH : NO_PLACE);
            }
            if (wanted == NOT_OR_PART && isAtWord("not")) {
                nots++;
                rule.join(Rule.NOT);
                return nots <= MOST_NOTS || refuse(TOO_MUCH);
            }
            nots = 0;
            if (isAtSign('(')) {
                rule.join(Rule.OPEN);
                parens++;
                tested &= ~(1 << parens);
                wanted = NOT_OR_PART;
                return true;
            }
            int value = valueWord();
            if (kind == WORD && value == NONE) {
                return refuse(NO_VALUE);
            }
            if (kind != WORD && !checkNumber(0, 9999)) {
                return false;
            }
            rule.putOperand(kind == WORD ? Rule.VALUE : Rule.NUMBER, kind == WORD ? value : number);
            wanted = OPERATOR;
            return true;
        }

        private boolean readOperator() {
            if (isAtSign(')') && parens > 0) {
                rule.close();
                parens--;
                return true;
            }
            int operator = operatorHere();
            boolean test = operator == Rule.LESS || operator == Rule.SAME;
            if (operator == NONE || test && (tested >> parens & 1) == 1) {
                return refuse(NO_PLACE);
            }
            boolean joint = operator == Rule.OR || operator == Rule.AND;
            if (test) {
                tested |= 1 << parens;
            } else if (joint) {
                tested &= ~(1 << parens);
            }
            wanted = joint ? NOT_OR_PART : PART;
            rule.join(operator);
            return true;
        }

        private int operatorHere() {
            return isAtWord("or") ? Rule.OR
                : isAtWord("and") ? Rule.AND
                : isAtSign('<') ? Rule.LESS
                : isAtSign('=') ? Rule.SAME
                : isAtSign('+') ? Rule.PLUS
                : isAtSign('-') ? Rule.MINUS
                : isAtSign('*') ? Rule.TIMES
                : isAtSign('/') ? Rule.BY
                : NONE;
        }
    }
}
