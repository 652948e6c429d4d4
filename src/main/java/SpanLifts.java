/** The refactoring "extract method" for a small imperative language, with inlining. */
public final class SpanLifts {
    public static final int NONE = -1, BAD = -2, NO = -3, FULL = -4;

    private static final int MOST_STATEMENTS = 40, MOST_BYTES = 160, MOST_SYMBOLS = 12;
    private static final int MOST_METHODS = 3, MOST_STEPS = 400, MOST_STORED = 6;
    private static final int MOST_INPUTS = 4, MOST_OUTPUTS = 3, VARIABLES = 8;
    private static final int ASSIGN = 0, PRINT = 1, RETURN = 2, BREAK = 3, CONTINUE = 4, IF = 5, LOOP = 6, CALL = 7;
    private static final int BY_END = 1, BY_BREAK = 2, BY_CONTINUE = 4, BY_RETURN = 8;
    /** The length of rows that are indexed by an exit (1, 2, 4 or 8). */
    private static final int EXIT_ROW = BY_RETURN + 1;
    private static final int ARGUMENTS = 3;
    /** One place for the present state, one for a state that is being built and may fail. */
    private static final int STATES = MOST_STORED + 2;
    /** The renaming of each variable to itself: three bits for each, variable 0 lowest. */
    private static final int SAME_NAMES = 7 << 21 | 6 << 18 | 5 << 15 | 4 << 12 | 3 << 9 | 2 << 6 | 1 << 3;
    /** All bits, so that it is neutral when sets are intersected; no set of variables is equal to it. */
    private static final int UNREACHED = -1;
    /** Far above what 400 steps, with the calls between them, can need. */
    private static final int MOST_TURNS = 1000000;
    private static final int DIVISION_BY_ZERO = 1, NOT_SET = 2, TOO_MANY_STEPS = 3;

    private final int[] text = new int[MOST_BYTES];
    private int textLength;
    private final int[] refusals = new int[3];
    private final State[] states = new State[STATES];
    private int now;
    private int stored;
    private final Reader reader = new Reader();
    private final Machine machine = new Machine();
    private final Flow flow = new Flow();
    private final Span chosen = new Span();
    private final Twins twins = new Twins();

    public SpanLifts() {
        for (int i = 0; i < STATES; i++) {
            states[i] = new State();
        }
    }

    public int type(int c) {
        if (c < 0 || c > 127) {
            return refuse(BAD);
        }
        if (textLength >= MOST_BYTES) {
            return refuse(FULL);
        }
        text[textLength] = c;
        textLength++;
        return textLength;
    }

    public int clear() {
        int had = textLength;
        textLength = 0;
        return had;
    }

    public int reads() {
        State next = spare();
        next.routineCount = 0;
        if (!reader.parse(text, textLength, next.program)) {
            return -10 - reader.at;
        }
        advance();
        return next.program.count;
    }

    public int statement(int k, int what) {
        Code program = present().program;
        if (!program.holds(k) || what < 0 || what > 6) {
            return refuse(BAD);
        }
        return program.property(k, what);
    }

    public int sign(int k, int i) {
        Code program = present().program;
        if (!program.holds(k) || i < 0) {
            return refuse(BAD);
        }
        return program.symbol(k, i);
    }

    public int runs(int a, int b) {
        return machine.execute(present(), a, b);
    }

    public int ran(int what, int k) {
        if (what < 0 || what > 4 || k < 0) {
            return refuse(BAD);
        }
        switch (what) {
            case 0: return machine.returned;
            case 1: return machine.steps;
            case 2: return machine.printCount;
            case 3: return k < machine.printCount ? machine.prints[k] : 0;
            default: return machine.outer.set;
        }
    }

    public int span(int i, int j, int what) {
        if (what < 0 || what > 3) {
            return refuse(BAD);
        }
        if (!choose(i, j)) {
            return refuse(NO);
        }
        switch (what) {
            case 0: return chosen.exits;
            case 1: return chosen.inputs;
            case 2: return chosen.outputs;
            default: return chosen.barred;
        }
    }

    public int hands(int i, int j, int what, int k) {
        if (what < 0 || what > 1 || k < 0) {
            return refuse(BAD);
        }
        if (!choose(i, j)) {
            return refuse(NO);
        }
        int set = what == 0 ? chosen.inputs : chosen.outputs;
        return present().program.pick(chosen.first, chosen.end, set, k);
    }

    public int live(int i, int j, int exit, int v) {
        boolean isExit = exit == BY_END || exit == BY_BREAK || exit == BY_CONTINUE || exit == BY_RETURN;
        if (!isExit || v < 0 || v >= VARIABLES) {
            return refuse(BAD);
        }
        if (!choose(i, j) || (chosen.exits & exit) == 0) {
            return refuse(NO);
        }
        return chosen.liveAt[exit] >> v & 1;
    }

    public int sure(int k, int v) {
        if (!present().program.holds(k) || v < 0 || v >= VARIABLES) {
            return refuse(BAD);
        }
        flow.study(present());
        return flow.setBefore[k] >> v & 1;
    }

    public int alike(int i, int j, int what, int k) {
        if (what < 0 || what > 2 || k < 0 || what == 2 && k >= VARIABLES) {
            return refuse(BAD);
        }
        if (!choose(i, j)) {
            return refuse(NO);
        }
        twins.find(chosen, flow);
        switch (what) {
            case 0: return twins.taken;
            case 1: return k < twins.taken ? twins.starts[k] : NONE;
            default: return twins.replacement(k);
        }
    }

    public int lifts(int i, int j, int all) {
        if (all < 0 || all > 1) {
            return refuse(BAD);
        }
        if (!choose(i, j) || chosen.barred != 0) {
            return refuse(NO);
        }
        if (present().routineCount >= MOST_METHODS) {
            return refuse(FULL);
        }
        if (all == 1) {
            twins.find(chosen, flow);
        } else {
            twins.forget();
        }
        spare().buildLifted(present(), chosen, twins);
        advance();
        return 1 + twins.taken;
    }

    public int method(int m, int what) {
        if (!present().hasRoutine(m) || what < 0 || what > 5) {
            return refuse(BAD);
        }
        return present().routineProperty(m, what);
    }

    public int formal(int m, int what, int k) {
        if (!present().hasRoutine(m) || what < 0 || what > 1 || k < 0) {
            return refuse(BAD);
        }
        Routine routine = present().routines[m];
        return routine.formalAt(what == 0 ? routine.inputs : routine.outputs, k);
    }

    public int settles(int m) {
        if (!present().hasRoutine(m)) {
            return refuse(BAD);
        }
        int calls = present().callsOf(m);
        spare().buildSettled(present(), m);
        advance();
        return calls;
    }

    public int back() {
        if (stored == 0) {
            return refuse(NO);
        }
        now = (now + STATES - 1) % STATES;
        stored--;
        flow.forget();
        return stored;
    }

    public int told(int what) {
        if (what < 0 || what > 6) {
            return refuse(BAD);
        }
        return tally(what);
    }

    public long digest() {
        long h = 2251;
        for (int what = 0; what <= 6; what++) {
            h = 31 * h + tally(what);
        }
        Code program = present().program;
        for (int k = 0; k < program.count; k++) {
            for (int what = 0; what <= 6; what++) {
                h = 31 * h + program.property(k, what);
            }
            for (int i = 0; i < program.length[k]; i++) {
                h = 31 * h + program.symbol(k, i);
            }
        }
        for (int m = 0; m < present().routineCount; m++) {
            for (int what = 0; what <= 5; what++) {
                h = 31 * h + present().routineProperty(m, what);
            }
        }
        return h;
    }

    private int refuse(int error) {
        int index = BAD - error;
        if (index >= 0 && index < refusals.length) {
            refusals[index]++;
        }
        return error;
    }

    private int tally(int what) {
        switch (what) {
            case 3: return textLength;
            case 4: return present().program.count;
            case 5: return present().routineCount;
            case 6: return stored;
            default: return what >= 0 && what < refusals.length ? refusals[what] : 0;
        }
    }

    private State present() {
        return states[now];
    }

    /** A state that is neither present nor stored. */
    private State spare() {
        return states[(now + 1) % STATES];
    }

    /** Makes the spare state the present one and stores the one before it. */
    private void advance() {
        now = (now + 1) % STATES;
        stored = Math.min(stored + 1, MOST_STORED);
        flow.forget();
    }

    /** Examines a span; false if there is no such span. */
    private boolean choose(int i, int j) {
        if (!present().program.isSpan(i, j)) {
            return false;
        }
        flow.study(present());
        flow.examine(chosen, i, j);
        return true;
    }

    private static boolean isOperator(int c) {
        switch (c) {
            case '+': case '-': case '*': case '/': case '%': case '<': case '=': return true;
            default: return false;
        }
    }

    private static boolean isDigit(int c) {
        return c >= '0' && c <= '9';
    }

    /** The number of the variable with this letter, NONE if it is none. */
    private static int variableOf(int c) {
        return c >= 'a' && c < 'a' + VARIABLES ? c - 'a' : NONE;
    }

    private static boolean has(int set, int v) {
        return (set >> v & 1) != 0;
    }

    private static int renamed(int renaming, int v) {
        return renaming >> 3 * v & 7;
    }

    private static int renamedSet(int renaming, int set) {
        int result = 0;
        for (int v = 0; v < VARIABLES; v++) {
            if ((set >> v & 1) != 0) {
                result |= 1 << (renaming >> 3 * v & 7);
            }
        }
        return result;
    }

    /** A sequence of statements in the order of the text: the program, or those of a method. */
    private static final class Code {
        final int[] kind = new int[MOST_STATEMENTS];
        final int[] parent = new int[MOST_STATEMENTS];
        final int[] inside = new int[MOST_STATEMENTS];
        final int[] inElse = new int[MOST_STATEMENTS];
        final int[] hasElse = new int[MOST_STATEMENTS];
        /** The variable of an assignment, the method of a call. */
        final int[] name = new int[MOST_STATEMENTS];
        /** For a call: from the variables of the method to those of the statements that it replaced. */
        final int[] renaming = new int[MOST_STATEMENTS];
        final int[] from = new int[MOST_STATEMENTS];
        final int[] length = new int[MOST_STATEMENTS];
        /** The set of the variables that the statement itself reads. */
        final int[] uses = new int[MOST_STATEMENTS];
        /** A call never has more symbols than the text of what it replaced, so all fit in here. */
        final int[] symbols = new int[MOST_BYTES];
        int count;
        int symbolCount;

        void empty() {
            count = 0;
            symbolCount = 0;
        }

        boolean holds(int k) {
            return k >= 0 && k < count;
        }

        /** Adds a statement without symbols; the caller sees to it that there is room. */
        int add(int newKind, int under, int side) {
            if (count >= MOST_STATEMENTS) {
                return NONE;
            }
            int k = count;
            count++;
            kind[k] = newKind;
            parent[k] = under;
            inside[k] = 0;
            inElse[k] = side;
            hasElse[k] = 0;
            name[k] = NONE;
            renaming[k] = SAME_NAMES;
            from[k] = symbolCount;
            length[k] = 0;
            uses[k] = 0;
            int up = under;
            for (int n = 0; n < MOST_STATEMENTS && up >= 0; n++) {
                inside[up]++;
                up = parent[up];
            }
            return k;
        }

        /** Appends a symbol to the last statement. */
        void put(int symbol) {
            if (count == 0 || symbolCount >= MOST_BYTES) {
                return;
            }
            symbols[symbolCount] = symbol;
            symbolCount++;
            length[count - 1]++;
        }

        /** Adds a copy of a statement of another code, with its variables renamed. */
        int addLike(Code other, int k, int under, int side, int names) {
            int copy = add(other.kind[k], under, side);
            if (copy == NONE) {
                return NONE;
            }
            hasElse[copy] = other.hasElse[k];
            name[copy] = other.kind[k] == ASSIGN ? renamed(names, other.name[k]) : other.name[k];
            renaming[copy] = other.renaming[k];
            for (int i = 0; i < other.length[k]; i++) {
                int symbol = other.symbols[other.from[k] + i];
                int v = variableOf(symbol);
                put(v == NONE ? symbol : 'a' + renamed(names, v));
            }
            uses[copy] = renamedSet(names, other.uses[k]);
            return copy;
        }

        /** Adds copies of statements of another code; the outermost of them come into one block. */
        void addRange(Code other, int first, int last, int under, int side, int names) {
            int base = count;
            for (int k = first; k <= last; k++) {
                if (other.parent[k] < first) {
                    addLike(other, k, under, side, names);
                } else {
                    addLike(other, k, base + other.parent[k] - first, other.inElse[k], names);
                }
            }
        }

        void copyFrom(Code other) {
            empty();
            addRange(other, 0, other.count - 1, NONE, 0, SAME_NAMES);
        }

        int property(int k, int what) {
            switch (what) {
                case 0: return kind[k];
                case 1: return parent[k];
                case 2: return inside[k];
                case 3: return position(k);
                case 4: return inElse[k];
                case 5: return kind[k] == ASSIGN ? name[k] : NONE;
                default: return kind[k] == CALL ? name[k] : NONE;
            }
        }

        int symbol(int k, int i) {
            return i < length[k] ? symbols[from[k] + i] : NONE;
        }

        private int position(int k) {
            int before = 0;
            for (int c = parent[k] + 1; c < k; c += inside[c] + 1) {
                if (inElse[c] == inElse[k]) {
                    before++;
                }
            }
            return before;
        }

        boolean isSpan(int i, int j) {
            return holds(i) && holds(j) && i <= j && parent[i] == parent[j] && inElse[i] == inElse[j];
        }

        /** The next statement of the same block, or NONE. */
        int following(int k) {
            int next = k + inside[k] + 1;
            return next < count && parent[next] == parent[k] && inElse[next] == inElse[k] ? next : NONE;
        }

        /** The innermost loop around a statement that is not before first, or NONE. */
        int loopAround(int k, int first) {
            int up = parent[k];
            for (int n = 0; n < MOST_STATEMENTS && up >= first && up >= 0; n++) {
                if (kind[up] == LOOP) {
                    return up;
                }
                up = parent[up];
            }
            return NONE;
        }

        /** Where a run goes on when statement k has ended: a statement from first to last, or -BY_END if it leaves these. */
        int behind(int k, int first, int last) {
            int at = k;
            for (int n = 0; n < MOST_STATEMENTS; n++) {
                int next = at + inside[at] + 1;
                if (next <= last && parent[next] == parent[at] && inElse[next] == inElse[at]) {
                    return next;
                }
                at = parent[at];
                if (at < first || at < 0) {
                    return -BY_END;
                }
                if (kind[at] == LOOP) {
                    return at;
                }
            }
            return -BY_END;
        }

        /** Where a run goes on when statement k is left by an exit; minus the exit by which it leaves first to last, if it does. */
        int target(int k, int exit, int first, int last) {
            if (exit == BY_END) {
                return behind(k, first, last);
            }
            int loop = exit == BY_RETURN ? NONE : loopAround(k, first);
            if (loop == NONE) {
                return -exit;
            }
            return exit == BY_BREAK ? behind(loop, first, last) : loop;
        }

        /** Where a run goes on behind the expression of an if or a loop: side 0 if it is not 0, side 1 if it is 0. */
        int enter(int k, int side, int first, int last) {
            for (int c = k + 1; c <= k + inside[k] && c < count; c += inside[c] + 1) {
                if (inElse[c] == side) {
                    return c;
                }
            }
            return kind[k] == LOOP && side == 0 ? k : behind(k, first, last);
        }

        /** The variable of a set that has this index in the order of the first occurrences from first to last. */
        int pick(int first, int last, int set, int index) {
            int rest = set;
            int found = 0;
            for (int k = first; k <= last; k++) {
                int changed = kind[k] == ASSIGN ? name[k] : NONE;
                for (int i = 0; i <= length[k]; i++) {
                    int v = i < length[k] ? variableOf(symbols[from[k] + i]) : changed;
                    if (v == NONE || !has(rest, v)) {
                        continue;
                    }
                    if (found == index) {
                        return v;
                    }
                    found++;
                    rest &= ~(1 << v);
                }
            }
            return NONE;
        }

        /** Whether there is a / or % whose second operand is not a digit from 1 to 9. */
        boolean mayFailToDivide() {
            for (int k = 0; k < count; k++) {
                for (int i = 0; i < length[k]; i++) {
                    int c = symbol(k, i);
                    if (c != '/' && c != '%') {
                        continue;
                    }
                    int divisor = symbol(k, endOfOperand(k, i + 1));
                    if (!isDigit(divisor) || divisor == '0') {
                        return true;
                    }
                }
            }
            return false;
        }

        /** The position behind the operand that begins at a position. */
        private int endOfOperand(int k, int begin) {
            int missing = 1;
            int i = begin;
            while (i < length[k] && missing > 0) {
                missing += isOperator(symbols[from[k] + i]) ? 1 : -1;
                i++;
            }
            return i;
        }
    }

    /** A method that has been extracted. */
    private static final class Routine {
        final Code body = new Code();
        int exits;
        int inputs;
        int outputs;
        /** For each exit the outputs that are always set when the method is left by it. */
        final int[] settled = new int[EXIT_ROW];

        void copyFrom(Routine other) {
            body.copyFrom(other.body);
            exits = other.exits;
            inputs = other.inputs;
            outputs = other.outputs;
            System.arraycopy(other.settled, 0, settled, 0, EXIT_ROW);
        }

        void takeFrom(Code program, Span span) {
            body.empty();
            body.addRange(program, span.first, span.end, NONE, 0, SAME_NAMES);
            exits = span.exits;
            inputs = span.inputs;
            outputs = span.outputs;
            for (int exit = BY_END; exit <= BY_RETURN; exit *= 2) {
                settled[exit] = (span.setAt[exit] | inputs) & outputs;
            }
        }

        int formalAt(int set, int index) {
            return body.pick(0, body.count - 1, set, index);
        }
    }

    /** A program and its methods. */
    private static final class State {
        final Code program = new Code();
        final Routine[] routines = new Routine[MOST_METHODS];
        int routineCount;
        /** While a state is built from another one: the new number of each old statement. */
        private final int[] place = new int[MOST_STATEMENTS];

        State() {
            for (int m = 0; m < MOST_METHODS; m++) {
                routines[m] = new Routine();
            }
        }

        boolean hasRoutine(int m) {
            return m >= 0 && m < routineCount;
        }

        int routineProperty(int m, int what) {
            Routine routine = routines[m];
            switch (what) {
                case 0: return routine.exits;
                case 1: return Integer.bitCount(routine.inputs);
                case 2: return Integer.bitCount(routine.outputs);
                case 3: return routine.body.count;
                case 4: return callsOf(m);
                default: return routine.body.mayFailToDivide() ? 1 : 0;
            }
        }

        int callsOf(int m) {
            int calls = 0;
            for (int k = 0; k < program.count; k++) {
                if (isCallOf(k, m)) {
                    calls++;
                }
            }
            return calls;
        }

        private boolean isCallOf(int k, int m) {
            return program.kind[k] == CALL && program.name[k] == m;
        }

        private boolean isCall(int k) {
            return program.kind[k] == CALL && program.name[k] >= 0 && program.name[k] < routineCount;
        }

        /** The exits of a statement that is neither an if nor a loop. */
        int exitsOf(int k) {
            switch (program.kind[k]) {
                case RETURN: return BY_RETURN;
                case BREAK: return BY_BREAK;
                case CONTINUE: return BY_CONTINUE;
                case CALL: return isCall(k) ? routines[program.name[k]].exits : BY_END;
                default: return BY_END;
            }
        }

        /** The variables that a statement sets on each path through it to an exit. */
        int setBy(int k, int exit) {
            if (isCall(k)) {
                return renamedSet(program.renaming[k], routines[program.name[k]].settled[exit]);
            }
            return program.kind[k] == ASSIGN ? 1 << program.name[k] : 0;
        }

        /** The variables that a statement itself sets, perhaps not on each path. */
        int changedBy(int k) {
            if (isCall(k)) {
                return renamedSet(program.renaming[k], routines[program.name[k]].outputs);
            }
            return program.kind[k] == ASSIGN ? 1 << program.name[k] : 0;
        }

        void buildLifted(State old, Span span, Twins twins) {
            for (int m = 0; m < old.routineCount; m++) {
                routines[m].copyFrom(old.routines[m]);
            }
            int made = Math.min(old.routineCount, MOST_METHODS - 1);
            routines[made].takeFrom(old.program, span);
            routineCount = made + 1;
            program.empty();
            int size = span.end - span.first + 1;
            int k = 0;
            for (int n = 0; n < MOST_STATEMENTS && k < old.program.count; n++) {
                int names = k == span.first ? SAME_NAMES : twins.renamingAt(k);
                if (names == NONE) {
                    keep(old.program, k);
                    k++;
                } else {
                    addCall(placeOf(old.program.parent[k]), old.program.inElse[k], made, names);
                    k += size;
                }
            }
        }

        void buildSettled(State old, int m) {
            routineCount = 0;
            for (int i = 0; i < old.routineCount; i++) {
                if (i != m) {
                    routines[routineCount].copyFrom(old.routines[i]);
                    routineCount++;
                }
            }
            program.empty();
            Code body = old.routines[m].body;
            for (int k = 0; k < old.program.count; k++) {
                if (old.isCallOf(k, m)) {
                    int under = placeOf(old.program.parent[k]);
                    program.addRange(body, 0, body.count - 1, under, old.program.inElse[k], old.program.renaming[k]);
                    continue;
                }
                int copy = keep(old.program, k);
                if (copy != NONE && program.kind[copy] == CALL && program.name[copy] > m) {
                    program.name[copy]--;
                }
            }
        }

        private int placeOf(int parent) {
            return parent >= 0 ? place[parent] : NONE;
        }

        private int keep(Code old, int k) {
            place[k] = program.addLike(old, k, placeOf(old.parent[k]), old.inElse[k], SAME_NAMES);
            return place[k];
        }

        private void addCall(int under, int side, int m, int names) {
            int k = program.add(CALL, under, side);
            if (k == NONE) {
                return;
            }
            Routine routine = routines[m];
            program.name[k] = m;
            program.renaming[k] = names;
            putNames(routine, routine.inputs, names);
            program.put('>');
            putNames(routine, routine.outputs, names);
            program.uses[k] = renamedSet(names, routine.inputs);
        }

        private void putNames(Routine routine, int set, int names) {
            int size = Integer.bitCount(set);
            for (int i = 0; i < size; i++) {
                int v = routine.formalAt(set, i);
                if (v != NONE) {
                    program.put('a' + renamed(names, v));
                }
            }
        }
    }

    /** Reads a program from a text. */
    private static final class Reader {
        private int[] text;
        private int length;
        private Code code;
        /** The innermost statement whose block is not closed yet. */
        private int open;
        /** The position of the next byte; after a failure the fault of the text. */
        int at;

        boolean parse(int[] fromText, int itsLength, Code into) {
            text = fromText;
            length = Math.min(itsLength, fromText.length);
            code = into;
            code.empty();
            open = NONE;
            at = 0;
            for (int n = 0; n <= MOST_BYTES; n++) {
                int c = look();
                if (c == NONE) {
                    return open == NONE;
                }
                if (c == '}' ? !closeBlock() : !readStatement(c)) {
                    return false;
                }
            }
            return false;
        }

        /** The next byte that is not a blank, NONE at the end. */
        private int look() {
            while (at < length && text[at] == ' ') {
                at++;
            }
            return at < length ? text[at] : NONE;
        }

        private boolean expect(int c) {
            if (look() != c) {
                return false;
            }
            at++;
            return true;
        }

        private boolean closeBlock() {
            if (open == NONE) {
                return false;
            }
            at++;
            if (code.kind[open] == IF && code.hasElse[open] == 0 && expect('{')) {
                code.hasElse[open] = 1;
            } else {
                open = code.parent[open];
            }
            return true;
        }

        private boolean readStatement(int c) {
            int kind = kindOf(c);
            if (kind == NONE || code.count >= MOST_STATEMENTS) {
                return false;
            }
            boolean jumps = kind == BREAK || kind == CONTINUE;
            if (jumps && !inLoop()) {
                return false;
            }
            int k = code.add(kind, open, open == NONE ? 0 : code.hasElse[open]);
            at++;
            if (kind == ASSIGN) {
                code.name[k] = variableOf(c);
                if (!expect('=')) {
                    return false;
                }
            }
            if (!jumps && !readExpression(k)) {
                return false;
            }
            if (kind != IF && kind != LOOP) {
                return expect(';');
            }
            open = k;
            return expect('{');
        }

        private boolean inLoop() {
            return open != NONE && (code.kind[open] == LOOP || code.loopAround(open, 0) != NONE);
        }

        private boolean readExpression(int k) {
            int missing = 1;
            for (int n = 0; n < MOST_SYMBOLS && missing > 0; n++) {
                int c = look();
                int v = variableOf(c);
                if (!isOperator(c) && !isDigit(c) && v == NONE) {
                    return false;
                }
                missing += isOperator(c) ? 1 : -1;
                if (v != NONE) {
                    code.uses[k] |= 1 << v;
                }
                code.put(c);
                at++;
            }
            if (missing > 0) {
                // The fault is the next byte, whatever it is, and not a blank before it.
                look();
                return false;
            }
            return true;
        }

        private static int kindOf(int c) {
            switch (c) {
                case '#': return PRINT;
                case '<': return RETURN;
                case '!': return BREAK;
                case '^': return CONTINUE;
                case '?': return IF;
                case '*': return LOOP;
                default: return variableOf(c) == NONE ? NONE : ASSIGN;
            }
        }
    }

    /** The variables of the program, or of a method that is being executed. */
    private static final class Frame {
        final int[] value = new int[VARIABLES];
        int set;

        void give(int v, int newValue) {
            value[v] = newValue;
            set |= 1 << v;
        }
    }

    /** Runs programs and keeps the results of the latest run. */
    private static final class Machine {
        final Frame outer = new Frame();
        private final Frame inner = new Frame();
        int returned;
        int steps;
        final int[] prints = new int[MOST_STEPS];
        int printCount;
        private int failure;
        /** The operators that still wait for an operand, with their first operands, if they have them. */
        private final int[] operator = new int[MOST_SYMBOLS];
        private final int[] left = new int[MOST_SYMBOLS];
        private final boolean[] hasLeft = new boolean[MOST_SYMBOLS];

        int execute(State state, int a, int b) {
            outer.set = 0;
            outer.give(0, a);
            outer.give(1, b);
            returned = 0;
            steps = 0;
            printCount = 0;
            failure = 0;
            Code code = state.program;
            int k = code.count > 0 ? 0 : -BY_END;
            for (int n = 0; n < MOST_TURNS && k >= 0; n++) {
                k = code.kind[k] == CALL ? perform(state, k) : step(code, k, outer);
            }
            if (failure != 0) {
                return 1 + failure;
            }
            return k == -BY_RETURN ? 1 : 0;
        }

        /** Executes a call; answers where the program goes on. */
        private int perform(State state, int k) {
            Code code = state.program;
            if (!state.hasRoutine(code.name[k])) {
                return -BY_END;
            }
            Routine routine = state.routines[code.name[k]];
            int names = code.renaming[k];
            inner.set = 0;
            for (int v = 0; v < VARIABLES; v++) {
                if (has(routine.inputs, v)) {
                    inner.give(v, valueOf(renamed(names, v), outer));
                }
            }
            int exit = failure == 0 ? walk(routine.body) : BY_END;
            if (failure != 0) {
                return -BY_END;
            }
            for (int v = 0; v < VARIABLES; v++) {
                if (has(routine.outputs & inner.set, v)) {
                    outer.give(renamed(names, v), inner.value[v]);
                }
            }
            return code.target(k, exit, 0, code.count - 1);
        }

        /** Executes the statements of a method; answers the exit by which it was left. */
        private int walk(Code body) {
            int k = body.count > 0 ? 0 : -BY_END;
            for (int n = 0; n < MOST_TURNS && k >= 0; n++) {
                k = step(body, k, inner);
            }
            return k < 0 ? -k : BY_END;
        }

        /** Executes a statement that is no call; answers where its code goes on, or minus the exit by which it is left. */
        private int step(Code code, int k, Frame frame) {
            int last = code.count - 1;
            if (steps >= MOST_STEPS) {
                failure = TOO_MANY_STEPS;
                return -BY_END;
            }
            steps++;
            int value = evaluate(code, k, frame);
            if (failure != 0) {
                return -BY_END;
            }
            switch (code.kind[k]) {
                case ASSIGN:
                    frame.give(code.name[k], value);
                    return code.behind(k, 0, last);
                case PRINT:
                    print(value);
                    return code.behind(k, 0, last);
                case RETURN:
                    returned = value;
                    return -BY_RETURN;
                case BREAK: return code.target(k, BY_BREAK, 0, last);
                case CONTINUE: return code.target(k, BY_CONTINUE, 0, last);
                default: return code.enter(k, value != 0 ? 0 : 1, 0, last);
            }
        }

        private void print(int value) {
            if (printCount < MOST_STEPS) {
                prints[printCount] = value;
                printCount++;
            }
        }

        /** Applies each operator as soon as it has both operands, so that failures come in the order of the text. */
        private int evaluate(Code code, int k, Frame frame) {
            int waiting = 0;
            int value = 0;
            for (int i = 0; i < code.length[k] && failure == 0; i++) {
                int c = code.symbol(k, i);
                if (isOperator(c)) {
                    if (waiting < MOST_SYMBOLS) {
                        operator[waiting] = c;
                        hasLeft[waiting] = false;
                        waiting++;
                    }
                    continue;
                }
                value = isDigit(c) ? c - '0' : valueOf(variableOf(c), frame);
                while (waiting > 0 && hasLeft[waiting - 1]) {
                    waiting--;
                    value = failure == 0 ? apply(operator[waiting], left[waiting], value) : 0;
                }
                if (waiting > 0) {
                    left[waiting - 1] = value;
                    hasLeft[waiting - 1] = true;
                }
            }
            return value;
        }

        private int valueOf(int v, Frame frame) {
            if (v < 0 || v >= VARIABLES || (frame.set >> v & 1) == 0) {
                failure = NOT_SET;
                return 0;
            }
            return frame.value[v];
        }

        private int apply(int c, int x, int y) {
            if ((c == '/' || c == '%') && y == 0) {
                failure = DIVISION_BY_ZERO;
                return 0;
            }
            switch (c) {
                case '+': return x + y;
                case '-': return x - y;
                case '*': return x * y;
                case '/': return y == 0 ? 0 : x / y;
                case '%': return y == 0 ? 0 : x % y;
                case '<': return x < y ? 1 : 0;
                default: return x == y ? 1 : 0;
            }
        }
    }

    /** What is known of a span: from statement first to last of a block, with all inside up to end. */
    private static final class Span {
        int first;
        int last;
        int end;
        int exits;
        int inputs;
        int outputs;
        int barred;
        /** For each exit of the span the variables that are live there. */
        final int[] liveAt = new int[EXIT_ROW];
        /** For each exit the variables that each path in the span to it sets. */
        final int[] setAt = new int[EXIT_ROW];
    }

    /** The data-flow analysis of a program. */
    private static final class Flow {
        private State state;
        private boolean known;
        /** For each statement the variables that some path from it on reads before it sets them. */
        final int[] liveBefore = new int[MOST_STATEMENTS];
        /** For each statement the variables that each path to it sets. */
        final int[] setBefore = new int[MOST_STATEMENTS];
        private final int[] inSpan = new int[MOST_STATEMENTS];
        /** For each exit the variables that each path to it sets, UNREACHED if there is no path. */
        private final int[] setAt = new int[EXIT_ROW];

        /** To be called when the program is another one. */
        void forget() {
            known = false;
        }

        /** Finds the facts of a program, if they are not known yet. */
        void study(State present) {
            if (known) {
                return;
            }
            known = true;
            state = present;
            int last = state.program.count - 1;
            if (last >= 0) {
                findLive(0, last, liveBefore);
                findSet(0, last, ARGUMENTS, setBefore);
            }
        }

        Code program() {
            return state.program;
        }

        /** Fills a span; the program must have been studied, and i and j must be a span of it. */
        void examine(Span span, int i, int j) {
            Code code = state.program;
            int whole = code.count - 1;
            span.first = i;
            span.last = j;
            span.end = j + code.inside[j];
            findSet(i, span.end, 0, inSpan);
            span.exits = 0;
            int live = 0;
            for (int exit = BY_END; exit <= BY_RETURN; exit *= 2) {
                span.setAt[exit] = setAt[exit];
                span.liveAt[exit] = 0;
                if (setAt[exit] != UNREACHED) {
                    span.exits |= exit;
                    int target = code.target(j, exit, 0, whole);
                    span.liveAt[exit] = target >= 0 ? liveBefore[target] : 0;
                    live |= span.liveAt[exit];
                }
            }
            span.outputs = 0;
            for (int k = i; k <= span.end; k++) {
                span.outputs |= state.changedBy(k) & live;
            }
            findLive(i, span.end, inSpan);
            span.inputs = inSpan[i];
            for (int exit = BY_END; exit <= BY_RETURN; exit *= 2) {
                span.inputs |= span.outputs & span.liveAt[exit] & ~span.setAt[exit];
            }
            span.barred = reason(span);
        }

        private int reason(Span span) {
            for (int k = span.first; k <= span.end; k++) {
                if (state.program.kind[k] == CALL) {
                    return 1;
                }
            }
            if (Integer.bitCount(span.inputs) > MOST_INPUTS || Integer.bitCount(span.outputs) > MOST_OUTPUTS) {
                return 2;
            }
            return (span.inputs & ~setBefore[span.first]) != 0 ? 3 : 0;
        }

        /**
         * Finds what each path from the beginning of first sets. One pass is enough: a path that comes to the
         * expression of a loop again has set at least what it had set when it came there first.
         */
        private void findSet(int first, int last, int start, int[] before) {
            for (int k = first; k <= last; k++) {
                before[k] = UNREACHED;
            }
            for (int exit = BY_END; exit <= BY_RETURN; exit *= 2) {
                setAt[exit] = UNREACHED;
            }
            before[first] = start;
            for (int k = first; k <= last; k++) {
                if (before[k] != UNREACHED) {
                    passOn(k, first, last, before);
                }
            }
        }

        private void passOn(int k, int first, int last, int[] before) {
            Code code = state.program;
            if (code.kind[k] == IF || code.kind[k] == LOOP) {
                reach(code.enter(k, 0, first, last), before[k], before);
                reach(code.enter(k, 1, first, last), before[k], before);
                return;
            }
            int exits = state.exitsOf(k);
            for (int exit = BY_END; exit <= BY_RETURN; exit *= 2) {
                if ((exits & exit) != 0) {
                    reach(code.target(k, exit, first, last), before[k] | state.setBy(k, exit), before);
                }
            }
        }

        private void reach(int target, int set, int[] before) {
            if (target >= 0) {
                before[target] &= set;
            } else if (-target < EXIT_ROW) {
                setAt[-target] &= set;
            }
        }

        /** Finds what paths from each statement on read before they set it, up to where they leave first to last. */
        private void findLive(int first, int last, int[] live) {
            for (int k = first; k <= last; k++) {
                live[k] = 0;
            }
            boolean changed = true;
            // Each pass but the last one adds a variable to a statement. Passes backwards carry facts out of nested
            // loops, passes forwards into them, so that few are needed.
            for (int n = 0; n <= MOST_STATEMENTS * VARIABLES && changed; n++) {
                changed = false;
                for (int i = first; i <= last; i++) {
                    int k = n % 2 == 0 ? last - (i - first) : i;
                    int found = liveAt(k, first, last, live);
                    changed |= found != live[k];
                    live[k] = found;
                }
            }
        }

        private int liveAt(int k, int first, int last, int[] live) {
            Code code = state.program;
            int found = code.uses[k];
            if (code.kind[k] == IF || code.kind[k] == LOOP) {
                int yes = code.enter(k, 0, first, last);
                int no = code.enter(k, 1, first, last);
                return found | (yes >= 0 ? live[yes] : 0) | (no >= 0 ? live[no] : 0);
            }
            int exits = state.exitsOf(k);
            for (int exit = BY_END; exit <= BY_RETURN; exit *= 2) {
                if ((exits & exit) != 0) {
                    int target = code.target(k, exit, first, last);
                    found |= (target >= 0 ? live[target] : 0) & ~state.setBy(k, exit);
                }
            }
            return found;
        }
    }

    /** Finds the spans that are alike to a span. */
    private static final class Twins {
        private final Span other = new Span();
        /** What replaces each variable of the span in the one that is being compared, NONE for other variables. */
        private final int[] to = new int[VARIABLES];
        private int replacements;
        final int[] starts = new int[MOST_STATEMENTS];
        private final int[] renamings = new int[MOST_STATEMENTS];
        int taken;
        /** The variables that the span contains. */
        private int contained;

        void forget() {
            taken = 0;
        }

        void find(Span span, Flow flow) {
            taken = 0;
            Code code = flow.program();
            int statements = inBlock(code, span);
            int size = span.end - span.first + 1;
            int free = 0;
            for (int k = 0; k + size <= code.count; k++) {
                boolean apart = k > span.end || k + size <= span.first;
                int last = apart && k >= free ? lastOf(code, k, statements) : NONE;
                if (last == NONE || last + code.inside[last] != k + size - 1 || !matches(code, span, k)) {
                    continue;
                }
                flow.examine(other, k, last);
                int names = packed();
                if (agrees(span, names)) {
                    take(k, names);
                    free = k + size;
                }
            }
        }

        /** What replaces a variable in the first span that was taken, or NONE. */
        int replacement(int v) {
            return taken > 0 && has(contained, v) ? renamed(renamings[0], v) : NONE;
        }

        /** The renaming for the span that was taken and begins with this statement, or NONE. */
        int renamingAt(int k) {
            for (int i = 0; i < taken; i++) {
                if (starts[i] == k) {
                    return renamings[i];
                }
            }
            return NONE;
        }

        private void take(int k, int names) {
            if (taken >= MOST_STATEMENTS) {
                return;
            }
            starts[taken] = k;
            renamings[taken] = names;
            taken++;
        }

        private boolean agrees(Span span, int names) {
            return other.barred == 0 && other.exits == span.exits
                && other.inputs == renamedSet(names, span.inputs)
                && other.outputs == renamedSet(names, span.outputs);
        }

        /** How many statements of its block a span has. */
        private static int inBlock(Code code, Span span) {
            int statements = 1;
            int k = span.first;
            for (int n = 0; n < MOST_STATEMENTS && k != NONE && k < span.last; n++) {
                k = code.following(k);
                statements++;
            }
            return statements;
        }

        /** The last one of so many statements of a block, or NONE. */
        private static int lastOf(Code code, int k, int statements) {
            int last = k;
            for (int n = 1; n < statements && last != NONE; n++) {
                last = code.following(last);
            }
            return last;
        }

        private boolean matches(Code code, Span span, int start) {
            for (int v = 0; v < VARIABLES; v++) {
                to[v] = NONE;
            }
            replacements = 0;
            for (int k = span.first; k <= span.end; k++) {
                int twin = start + k - span.first;
                if (!sameShape(code, k, twin) || !samePlace(code, k, span.first, start) || !sameNames(code, k, twin)) {
                    return false;
                }
            }
            return true;
        }

        private static boolean sameShape(Code code, int k, int twin) {
            return code.kind[k] != CALL && code.kind[k] == code.kind[twin]
                && code.hasElse[k] == code.hasElse[twin] && code.length[k] == code.length[twin];
        }

        /** Whether a statement of the span has the same place in it as its twin in the other one. */
        private static boolean samePlace(Code code, int k, int first, int start) {
            int twin = start + k - first;
            if (code.parent[k] < first || code.parent[twin] < start) {
                return code.parent[k] < first && code.parent[twin] < start;
            }
            return code.parent[k] - first == code.parent[twin] - start && code.inElse[k] == code.inElse[twin];
        }

        private boolean sameNames(Code code, int k, int twin) {
            for (int i = 0; i < code.length[k]; i++) {
                int c = code.symbol(k, i);
                int d = code.symbol(twin, i);
                int v = variableOf(c);
                int w = variableOf(d);
                if (v == NONE || w == NONE ? c != d : !replaces(v, w)) {
                    return false;
                }
            }
            return code.kind[k] != ASSIGN || replaces(code.name[k], code.name[twin]);
        }

        /** Whether w can replace v, one to one, besides the replacements so far. */
        private boolean replaces(int v, int w) {
            if (to[v] == NONE && !has(replacements, w)) {
                to[v] = w;
                replacements |= 1 << w;
            }
            return to[v] == w;
        }

        private int packed() {
            int names = 0;
            contained = 0;
            for (int v = 0; v < VARIABLES; v++) {
                if (to[v] != NONE) {
                    names |= to[v] << 3 * v;
                    contained |= 1 << v;
                }
            }
            return names;
        }
    }
}
