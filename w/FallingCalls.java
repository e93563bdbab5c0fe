import java.util.Arrays;

/**
 * Whether functions that call one another end on every input, by the graphs of
 * their calls (size change): see ../shared/DOC.md, whose words are used here.
 */
public final class FallingCalls {
    public static final int BAD = -1, STATE = -2, FULL = -3, NONE = -4;

    private static final int MOST_FUNCTIONS = 3;
    private static final int MOST_ARITY = 2;
    private static final int MOST_CALLS = 12;
    private static final int MOST_BYTES = 160;
    private static final int MOST_IMAGES = 2;
    private static final int MOST_SHEETS = 4;
    private static final int MOST_CELLS = 40;
    private static final int MOST_READ = 13;
    private static final int MOST_STEPS = 200;
    private static final int MOST_START = 99;

    private static final int KIND_NUMBER = 0;
    private static final int KIND_LESS = 1;
    private static final int KIND_PART = 2;
    private static final int KIND_MORE = 3;
    private static final int KIND_LESSER = 4;

    private static final int FAULT_NULL = 1;
    private static final int FAULT_INDEX = 2;
    private static final int FAULT_CAST = 3;
    private static final int FAULT_SIZE = 4;

    private final Teller teller = new Teller();
    private final Program told = new Program();
    private final Program trial = new Program();
    private final Graphs graphs = new Graphs();
    private final Program[] images = new Program[MOST_IMAGES];
    private final boolean[] kept = new boolean[MOST_IMAGES];
    private final Sheet[] sheets = new Sheet[MOST_SHEETS];
    private boolean stale = true;
    private int readFault;

    public FallingCalls() {
        for (int k = 0; k < MOST_IMAGES; k++) {
            images[k] = new Program();
        }
        for (int k = 0; k < MOST_SHEETS; k++) {
            sheets[k] = new Sheet();
        }
    }

    // ---- the text

    public int feed(int c) {
        if (c < 0 || c > 127) {
            return BAD;
        }
        if (teller.length >= MOST_BYTES) {
            return FULL;
        }
        teller.tape[teller.length] = (byte) c;
        teller.length++;
        return teller.length;
    }

    public int end(int n) {
        int had = teller.length;
        if (n < 0 || n > had) {
            return BAD;
        }
        teller.length = n;
        return had;
    }

    public int text() {
        trial.clear();
        int lines = teller.tell(trial);
        teller.length = 0;
        if (teller.fault != 0) {
            return -10 - teller.at;
        }
        told.copy(trial);
        stale = true;
        for (int k = 0; k < MOST_IMAGES; k++) {
            kept[k] = false;
        }
        return lines;
    }

    public int fault() {
        return teller.fault;
    }

    public int rule(int what) {
        switch (what) {
            case 0:
                return told.functions;
            case 1:
                return told.calls;
            case 2:
                return fresh().size;
            case 3:
                return fresh().idleOnes();
            case 4:
                return fresh().loopCount;
            case 5:
                return bit(fresh().loopCount == 0);
            case 6:
                return fresh().componentsBelow(told.functions);
            case 7:
                return fresh().neededOnes();
            default:
                return BAD;
        }
    }

    public int fun(int f, int what) {
        if (!told.hasFunction(f)) {
            return BAD;
        }
        switch (what) {
            case 0:
                return told.arity[f];
            case 1:
                return told.callsFrom(f);
            case 2:
                return fresh().componentOf(f);
            case 3:
                return bit(fresh().firstLoopOf(f) < 0);
            case 4:
                return fresh().comesTo[f];
            default:
                return BAD;
        }
    }

    public int call(int c, int what) {
        if (!told.hasCall(c)) {
            return BAD;
        }
        switch (what) {
            case 0:
                return told.from[c];
            case 1:
                return told.to[c];
            case 2:
                return Graphs.codeOf(told.bitsOf(c));
            case 3:
                return fresh().ofCall[c];
            default:
                return BAD;
        }
    }

    public int argument(int c, int k, int what) {
        if (!told.hasArgument(c, k)) {
            return BAD;
        }
        int a = told.argumentAt(c, k);
        int kind = kindOf(a);
        switch (what) {
            case 0:
                return kind;
            case 1:
                return kind == KIND_NUMBER || kind == KIND_LESSER ? NONE : valueOf(a);
            case 2:
                return numberOf(a);
            default:
                return BAD;
        }
    }

    public int graph(int g, int what) {
        Graphs all = fresh();
        if (!all.has(g)) {
            return BAD;
        }
        switch (what) {
            case 0:
                return all.fromOf(g);
            case 1:
                return all.toOf(g);
            case 2:
                return Graphs.codeOf(all.bits[g]);
            case 3:
                return all.wordLength[g];
            case 4:
                return bit(all.isIdle(g));
            case 5:
                return all.fromOf(g) == all.toOf(g) ? all.fallsIn(g) : NONE;
            case 6:
                return bit(all.isLoop(g));
            case 7:
                return bit(all.isNeedless(g));
            default:
                return BAD;
        }
    }

    public int word(int g, int k) {
        Graphs all = fresh();
        if (!all.has(g) || k < 0) {
            return BAD;
        }
        return k < all.wordLength[g] ? all.callOfWord(g, k) : NONE;
    }

    public int find(int from, int to, int code) {
        if (!told.hasFunction(from) || !told.hasFunction(to) || code < 0 || code >= Graphs.CODES) {
            return BAD;
        }
        return orNone(fresh().at(from, to, code));
    }

    public int compose(int g, int h) {
        Graphs all = fresh();
        if (!all.has(g) || !all.has(h)) {
            return BAD;
        }
        if (all.toOf(g) != all.fromOf(h)) {
            return NONE;
        }
        int made = Graphs.composed(all.bits[g], all.bits[h]);
        return orNone(all.at(all.fromOf(g), all.toOf(h), Graphs.codeOf(made)));
    }

    public int witness(int f) {
        if (!told.hasFunction(f)) {
            return BAD;
        }
        return orNone(fresh().firstLoopOf(f));
    }

    // ---- what is changed

    public int open(int arity) {
        if (arity < 1 || arity > MOST_ARITY) {
            return BAD;
        }
        if (told.functions >= MOST_FUNCTIONS) {
            return FULL;
        }
        told.appendFunction(arity);
        stale = true;
        return told.functions;
    }

    public int add(int from, int to) {
        if (!told.hasFunction(from) || !told.hasFunction(to)) {
            return BAD;
        }
        if (told.calls >= MOST_CALLS) {
            return FULL;
        }
        told.appendCall(from, to);
        stale = true;
        return told.calls;
    }

    public int cut(int n) {
        int had = told.calls;
        if (n < 0 || n > had) {
            return BAD;
        }
        told.calls = n;
        stale = true;
        return had;
    }

    public int set(int c, int k, int a) {
        if (!told.takes(c, k, a)) {
            return BAD;
        }
        int was = told.argumentAt(c, k);
        told.putArgument(c, k, a);
        stale = true;
        return was;
    }

    // ---- what is best

    public int spare() {
        int suspects = fresh().callsOfEveryLoop();
        for (int c = 0; c < told.calls; c++) {
            if ((suspects >> c & 1) != 0) {
                trial.copy(told);
                trial.removeCall(c);
                if (trialEnds()) {
                    return c;
                }
            }
        }
        return NONE;
    }

    public int mend() {
        int suspects = fresh().callsOfEveryLoop();
        for (int at = 0; at < 100 * told.calls; at++) {
            int c = at / 100;
            int k = at / 10 % 10;
            int a = argumentOf(KIND_LESS, at % 10, 1);
            if ((suspects >> c & 1) != 0 && told.takes(c, k, a)) {
                trial.copy(told);
                trial.putArgument(c, k, a);
                if (trialEnds()) {
                    return at;
                }
            }
        }
        return NONE;
    }

    public int loops() {
        return fresh().neededLoops();
    }

    // ---- runs

    public int run(int f, int x, int y, int seed) {
        if (!told.hasFunction(f) || x < 0 || x > MOST_START || y < 0 || y > MOST_START) {
            return BAD;
        }
        if (told.arity[f] == 1 && y != 0) {
            return BAD;
        }
        int at = f;
        int a = x;
        int b = y;
        int luck = seed;
        for (int made = 0; made < MOST_STEPS; made++) {
            int choices = told.callsMade(at, a, b);
            if (choices == 0) {
                return made;
            }
            luck = luck * 1103515245 + 12345;
            int c = told.callMade(at, a, b, (luck >>> 16 & 0x7FFF) % choices);
            int nextA = told.worth(c, 0, a, b);
            b = told.worth(c, 1, a, b);
            a = nextA;
            at = told.to[c];
        }
        return NONE;
    }

    // ---- images, sheets

    public int keep(int k) {
        if (!isImage(k)) {
            return BAD;
        }
        int was = bit(kept[k]);
        images[k].copy(told);
        kept[k] = true;
        return was;
    }

    public int back(int k) {
        if (!isImage(k)) {
            return BAD;
        }
        if (!kept[k]) {
            return STATE;
        }
        told.copy(images[k]);
        stale = true;
        return told.calls;
    }

    public int sheet(int k, int lane, int n) {
        if (!isSheet(k) || !isLane(lane) || n > MOST_CELLS) {
            return BAD;
        }
        if (n < 0) {
            return -10 - FAULT_SIZE;
        }
        sheets[k].begin(lane, n);
        return 1;
    }

    public int lay(int k, int i, int v) {
        if (!isSheet(k)) {
            return BAD;
        }
        Sheet s = sheets[k];
        int found = s.faultAt(s.lane, i, 1);
        if (found != 0) {
            return -10 - found;
        }
        s.put(i, v);
        return 1;
    }

    public int read(int k, int lane, int f, int n) {
        if (!isSheet(k) || !isLane(lane) || n < 0 || n > MOST_READ) {
            return BAD;
        }
        Sheet s = sheets[k];
        trial.copy(told);
        int found = 0;
        int came = 0;
        while (came < n) {
            int first = f + 3 * came;
            found = s.faultAt(lane, first, 3);
            if (found != 0) {
                break;
            }
            int c = s.cells[first];
            int which = s.cells[first + 1];
            int a = s.cells[first + 2];
            if (!trial.takes(c, which, a)) {
                return -20 - came;
            }
            trial.putArgument(c, which, a);
            came++;
        }
        told.copy(trial);
        stale = true;
        readFault = found;
        return came;
    }

    public int torn() {
        return readFault;
    }

    public int count(int what) {
        switch (what) {
            case 0:
                return bit(kept[0]) + bit(kept[1]);
            case 1:
                return told.plainNumbers();
            case 2:
                return teller.length;
            case 3:
                return sheets[0].lane == Sheet.NOTHING ? NONE : sheets[0].size;
            case 4:
                return told.arities();
            case 5:
                return fresh().sumOfCodes();
            default:
                return BAD;
        }
    }

    // ---- within

    private static int bit(boolean is) {
        return is ? 1 : 0;
    }

    private static int orNone(int g) {
        return g < 0 ? NONE : g;
    }

    private static boolean isImage(int k) {
        return k >= 0 && k < MOST_IMAGES;
    }

    private static boolean isSheet(int k) {
        return k >= 0 && k < MOST_SHEETS;
    }

    private static boolean isLane(int lane) {
        return lane >= Sheet.BYTES && lane <= Sheet.INTS;
    }

    private static int kindOf(int a) {
        return a / 100;
    }

    private static int valueOf(int a) {
        return a / 10 % 10;
    }

    private static int numberOf(int a) {
        return a % 10;
    }

    private static int argumentOf(int kind, int value, int number) {
        return 100 * kind + 10 * value + number;
    }

    private Graphs fresh() {
        if (stale) {
            graphs.close(told, false);
            stale = false;
        }
        return graphs;
    }

    /** Trials are made in the one room for graphs, so what it held is to be made again. */
    private boolean trialEnds() {
        stale = true;
        graphs.close(trial, true);
        return graphs.loopCount == 0;
    }

    /** Functions and calls; an argument is held as set() tells it. */
    private static final class Program {
        static final int MOST_WORTH = 999;

        final int[] arity = new int[MOST_FUNCTIONS];
        final int[] from = new int[MOST_CALLS];
        final int[] to = new int[MOST_CALLS];
        final int[] arguments = new int[MOST_CALLS * MOST_ARITY];
        int functions;
        int calls;

        void clear() {
            functions = 0;
            calls = 0;
        }

        void copy(Program other) {
            functions = other.functions;
            calls = other.calls;
            System.arraycopy(other.arity, 0, arity, 0, MOST_FUNCTIONS);
            System.arraycopy(other.from, 0, from, 0, MOST_CALLS);
            System.arraycopy(other.to, 0, to, 0, MOST_CALLS);
            System.arraycopy(other.arguments, 0, arguments, 0, MOST_CALLS * MOST_ARITY);
        }

        boolean hasFunction(int f) {
            return f >= 0 && f < functions;
        }

        boolean hasCall(int c) {
            return c >= 0 && c < calls;
        }

        boolean hasArgument(int c, int k) {
            return hasCall(c) && k >= 0 && k < arity[to[c]];
        }

        int argumentAt(int c, int k) {
            return arguments[MOST_ARITY * c + k];
        }

        void putArgument(int c, int k, int a) {
            arguments[MOST_ARITY * c + k] = a;
        }

        void appendFunction(int newArity) {
            arity[functions] = newArity;
            functions++;
        }

        void appendCall(int f, int t) {
            from[calls] = f;
            to[calls] = t;
            putArgument(calls, 0, 0);
            putArgument(calls, 1, 0);
            calls++;
        }

        void removeCall(int gone) {
            calls--;
            for (int c = gone; c < calls; c++) {
                from[c] = from[c + 1];
                to[c] = to[c + 1];
                putArgument(c, 0, argumentAt(c + 1, 0));
                putArgument(c, 1, argumentAt(c + 1, 1));
            }
        }

        /** Whether argument k of a call there is may become a. */
        boolean takes(int c, int k, int a) {
            if (!hasArgument(c, k) || a < 0) {
                return false;
            }
            int values = arity[from[c]];
            switch (kindOf(a)) {
                case KIND_NUMBER:
                    return valueOf(a) == 0;
                case KIND_LESS:
                case KIND_MORE:
                    return valueOf(a) < values;
                case KIND_PART:
                    return valueOf(a) < values && numberOf(a) > 0;
                case KIND_LESSER:
                    return values == 2 && a == argumentOf(KIND_LESSER, 0, 0);
                default:
                    return false;
            }
        }

        int callsFrom(int f) {
            int many = 0;
            for (int c = 0; c < calls; c++) {
                many += bit(from[c] == f);
            }
            return many;
        }

        int plainNumbers() {
            int many = 0;
            for (int c = 0; c < calls; c++) {
                for (int k = 0; k < arity[to[c]]; k++) {
                    many += bit(kindOf(argumentAt(c, k)) == KIND_NUMBER);
                }
            }
            return many;
        }

        int arities() {
            int sum = 0;
            for (int f = 0; f < functions; f++) {
                sum += arity[f];
            }
            return sum;
        }

        /** The graph of a call, as Graphs holds it. */
        int bitsOf(int c) {
            int bits = 0;
            for (int i = 0; i < arity[from[c]]; i++) {
                for (int k = 0; k < arity[to[c]]; k++) {
                    int relation = relation(i, argumentAt(c, k));
                    bits |= bit(relation > 0) << 2 * i + k;
                    bits |= bit(relation > 1) << 4 + 2 * i + k;
                }
            }
            return bits;
        }

        static int relation(int i, int a) {
            int kind = kindOf(a);
            int number = numberOf(a);
            if (kind == KIND_LESSER) {
                return 1;
            }
            if (kind == KIND_NUMBER || valueOf(a) != i) {
                return 0;
            }
            if (kind == KIND_LESS) {
                return number > 0 ? 2 : 1;
            }
            if (kind == KIND_PART) {
                return number > 1 ? 2 : 1;
            }
            return number == 0 ? 1 : 0;
        }

        int callsMade(int f, int a, int b) {
            int many = 0;
            for (int c = 0; c < calls; c++) {
                many += bit(from[c] == f && isMade(c, a, b));
            }
            return many;
        }

        /** The call from f that is made, with so many made ones ahead of it. */
        int callMade(int f, int a, int b, int ahead) {
            int left = ahead;
            for (int c = 0; c < calls; c++) {
                if (from[c] == f && isMade(c, a, b)) {
                    if (left == 0) {
                        return c;
                    }
                    left--;
                }
            }
            return 0;
        }

        boolean isMade(int c, int a, int b) {
            for (int k = 0; k < arity[to[c]]; k++) {
                int held = argumentAt(c, k);
                int value = valueOf(held) == 0 ? a : b;
                int number = numberOf(held);
                if (kindOf(held) == KIND_LESS && value < number) {
                    return false;
                }
                if (kindOf(held) == KIND_PART && number > 1 && value == 0) {
                    return false;
                }
            }
            return true;
        }

        /** What argument k is of values a, b; an argument that there is not is 0. */
        int worth(int c, int k, int a, int b) {
            int held = argumentAt(c, k);
            int value = valueOf(held) == 0 ? a : b;
            int number = numberOf(held);
            switch (kindOf(held)) {
                case KIND_LESS:
                    return value - number;
                case KIND_PART:
                    return number > 0 ? value / number : value;
                case KIND_MORE:
                    return Math.min(value + number, MOST_WORTH);
                case KIND_LESSER:
                    return Math.min(a, b);
                default:
                    return number;
            }
        }
    }

    /** The tape, and how it is read into a program up to the first fault. */
    private static final class Teller {
        static final int NOTHING = 0;
        static final int NAME = 1;
        static final int NUMBER = 2;
        static final int SIGN = 3;
        static final int BLANK = 32;
        static final int MOST_FIGURES = 2;

        static final int NO_TOKEN = 1;
        static final int CANNOT_STAND = 2;
        static final int OUT_OF_BOUNDS = 3;
        static final int TOO_MANY = 5;

        final byte[] tape = new byte[MOST_BYTES];
        int length;
        int fault;
        int at;
        private int behind;
        private int token;

        /** Tells an empty program what the tape says: how many lines; then fault and at say more. */
        int tell(Program draft) {
            fault = 0;
            behind = 0;
            step();
            int lines = 0;
            while (lines <= MOST_FUNCTIONS + MOST_CALLS && token != NOTHING) {
                if (isName("fun")) {
                    tellFunction(draft);
                } else if (isName("call")) {
                    tellCall(draft);
                } else {
                    refuse(CANNOT_STAND);
                }
                lines++;
            }
            return lines;
        }

        private void tellFunction(Program draft) {
            if (draft.functions >= MOST_FUNCTIONS) {
                refuse(TOO_MANY);
                return;
            }
            step();
            int arity = takeNumber(1, MOST_ARITY);
            takeLineEnd();
            draft.appendFunction(arity);
        }

        private void tellCall(Program draft) {
            if (draft.calls >= MOST_CALLS) {
                refuse(TOO_MANY);
                return;
            }
            step();
            int f = takeNumber(0, draft.functions - 1);
            int t = takeNumber(0, draft.functions - 1);
            int c = draft.calls;
            draft.appendCall(f, t);
            for (int k = 0; k < draft.arity[t]; k++) {
                draft.putArgument(c, k, takeArgument(draft.arity[f]));
            }
            takeLineEnd();
        }

        private int takeArgument(int values) {
            if (token == NUMBER) {
                return argumentOf(KIND_NUMBER, 0, takeNumber(0, 9));
            }
            int value = takeValue(values);
            if (isSign('-')) {
                step();
                return argumentOf(KIND_LESS, value, takeNumber(0, 9));
            }
            if (isSign('/')) {
                step();
                return argumentOf(KIND_PART, value, takeNumber(1, 9));
            }
            if (isSign('+')) {
                step();
                return argumentOf(KIND_MORE, value, takeNumber(0, 9));
            }
            if (isSign('&')) {
                step();
                if (takeValue(values) != value) {
                    return argumentOf(KIND_LESSER, 0, 0);
                }
            }
            return argumentOf(KIND_LESS, value, 0);
        }

        private int takeValue(int values) {
            boolean second = isName("b");
            if (!second && !isName("a")) {
                refuse(CANNOT_STAND);
            } else if (second && values < 2) {
                refuse(OUT_OF_BOUNDS);
            } else {
                step();
            }
            return bit(second);
        }

        private int takeNumber(int low, int high) {
            if (token != NUMBER) {
                refuse(CANNOT_STAND);
                return low;
            }
            int number = numberRead();
            if (number < low || number > high) {
                refuse(OUT_OF_BOUNDS);
                return low;
            }
            step();
            return number;
        }

        private void takeLineEnd() {
            if (isSign(';')) {
                step();
            } else {
                refuse(CANNOT_STAND);
            }
        }

        /** The first fault stays, at the token that was read; behind it nothing is read. */
        private void refuse(int found) {
            if (fault == 0) {
                fault = found;
            }
            token = NOTHING;
        }

        private boolean isSign(char sign) {
            return token == SIGN && tape[at] == sign;
        }

        private boolean isName(String name) {
            if (token != NAME || behind - at != name.length()) {
                return false;
            }
            for (int i = 0; i < name.length(); i++) {
                if (tape[at + i] != name.charAt(i)) {
                    return false;
                }
            }
            return true;
        }

        /** Reads the next token; at the end there is nothing. */
        private void step() {
            if (fault != 0) {
                return;
            }
            at = behind;
            while (at < length && tape[at] == BLANK) {
                at++;
            }
            behind = at;
            token = NOTHING;
            if (at >= length) {
                return;
            }
            token = tokenOf(tape[at]);
            behind = at + 1;
            while (token != SIGN && behind < length && tokenOf(tape[behind]) == token) {
                behind++;
            }
            if (token == NOTHING || token == NUMBER && behind - at > MOST_FIGURES) {
                refuse(NO_TOKEN);
            }
        }

        private static int tokenOf(int c) {
            if (c >= 'a' && c <= 'z') {
                return NAME;
            }
            if (c >= '0' && c <= '9') {
                return NUMBER;
            }
            return c == '-' || c == '/' || c == '+' || c == '&' || c == ';' ? SIGN : NOTHING;
        }

        private int numberRead() {
            int number = 0;
            for (int i = at; i < behind; i++) {
                number = 10 * number + tape[i] - '0';
            }
            return number;
        }
    }

    /**
     * The graphs of a program's calls, closed under composition.
     *
     * <p>A graph's relations are held as bits: bit 2 i + k is set if the
     * relation of i to k is above 0, bit 4 + 2 i + k if it is 2. So the greater
     * of two relations is | and "none above" is a subset.
     */
    private static final class Graphs {
        static final int CODES = 81;
        static final int PLACES = MOST_FUNCTIONS * MOST_FUNCTIONS * CODES;

        /** The bits of value 0: those of value 1 are two places on. */
        private static final int ROW_BITS = 0x33;

        /** For each four bits the sum of 3 to the power of each bit's place. */
        private static final int[] POWERS = {0, 1, 3, 4, 9, 10, 12, 13, 27, 28, 30, 31, 36, 37, 39, 40};

        final int[] bits = new int[PLACES];
        final int[] wordLength = new int[PLACES];
        final int[] ofCall = new int[MOST_CALLS];
        final int[] comesTo = new int[MOST_FUNCTIONS];
        int size;
        int loopCount;
        private final int[] ends = new int[PLACES];
        private final int[] before = new int[PLACES];
        private final int[] lastCall = new int[PLACES];
        private final int[] callsOf = new int[PLACES];
        private final int[] found = new int[PLACES];

        static int codeOf(int bits) {
            return POWERS[bits & 15] + POWERS[bits >> 4 & 15];
        }

        static int composed(int first, int second) {
            int made = 0;
            for (int i = 0; i < MOST_ARITY; i++) {
                for (int m = 0; m < MOST_ARITY; m++) {
                    int way = first >> 2 * i + m;
                    if ((way & 1) != 0) {
                        int row = second >> 2 * m & ROW_BITS;
                        if ((way & 16) != 0) {
                            row |= row << 4 & ROW_BITS;
                        }
                        made |= row << 2 * i;
                    }
                }
            }
            return made;
        }

        /** Makes all graphs anew; one in haste comes to an end where there is a loop. */
        void close(Program program, boolean inHaste) {
            forget();
            for (int c = 0; c < program.calls; c++) {
                ofCall[c] = meet(program.from[c], program.to[c], program.bitsOf(c), -1, c);
            }
            for (int g = 0; g < size && g < PLACES; g++) {
                if (inHaste && loopCount > 0) {
                    return;
                }
                for (int c = 0; c < program.calls; c++) {
                    if (program.from[c] == toOf(g)) {
                        int made = composed(bits[g], bits[ofCall[c]]);
                        meet(fromOf(g), program.to[c], made, g, c);
                    }
                }
            }
        }

        private void forget() {
            size = 0;
            loopCount = 0;
            Arrays.fill(found, -1);
            Arrays.fill(comesTo, 0);
        }

        /**
         * Which graph it is; a new one came by a graph (or -1) and a call behind
         * it. Each has a place of its own, so there are never more than PLACES.
         */
        private int meet(int f, int t, int relations, int by, int c) {
            int place = placeOf(f, t, codeOf(relations));
            if (found[place] >= 0) {
                return found[place];
            }
            int g = size;
            size++;
            found[place] = g;
            bits[g] = relations;
            ends[g] = MOST_FUNCTIONS * f + t;
            before[g] = by;
            lastCall[g] = c;
            wordLength[g] = by < 0 ? 1 : wordLength[by] + 1;
            callsOf[g] = 1 << c | (by < 0 ? 0 : callsOf[by]);
            comesTo[f] |= 1 << t;
            loopCount += bit(isLoop(g));
            return g;
        }

        private static int placeOf(int f, int t, int code) {
            return (MOST_FUNCTIONS * f + t) * CODES + code;
        }

        boolean has(int g) {
            return g >= 0 && g < size;
        }

        int fromOf(int g) {
            return ends[g] / MOST_FUNCTIONS;
        }

        int toOf(int g) {
            return ends[g] % MOST_FUNCTIONS;
        }

        /** Which graph, or -1. */
        int at(int f, int t, int code) {
            return found[placeOf(f, t, code)];
        }

        int callOfWord(int g, int k) {
            int at = g;
            for (int left = wordLength[g] - 1; left > k; left--) {
                at = before[at];
            }
            return lastCall[g];
        }

        boolean isIdle(int g) {
            return fromOf(g) == toOf(g) && composed(bits[g], bits[g]) == bits[g];
        }

        int fallsIn(int g) {
            return bits[g] >> 4 & 1 | bits[g] >> 6 & 2;
        }

        boolean isLoop(int g) {
            return fallsIn(g) == 0 && isIdle(g);
        }

        /** A graph with no relation above another's has a lesser code, too. */
        boolean isNeedless(int g) {
            int first = ends[g] * CODES;
            int own = codeOf(bits[g]);
            for (int code = 0; code < own; code++) {
                int other = found[first + code];
                if (other >= 0 && (bits[other] & ~bits[g]) == 0) {
                    return true;
                }
            }
            return false;
        }

        int idleOnes() {
            int many = 0;
            for (int g = 0; g < size; g++) {
                many += bit(isIdle(g));
            }
            return many;
        }

        int neededOnes() {
            int many = 0;
            for (int g = 0; g < size; g++) {
                many += bit(!isNeedless(g));
            }
            return many;
        }

        int neededLoops() {
            int many = 0;
            for (int g = 0; g < size; g++) {
                many += bit(isLoop(g) && !isNeedless(g));
            }
            return many;
        }

        int sumOfCodes() {
            int sum = 0;
            for (int g = 0; g < size; g++) {
                sum += codeOf(bits[g]);
            }
            return sum;
        }

        /** The first loop that a function comes to or has, or -1. */
        int firstLoopOf(int f) {
            int within = comesTo[f] | 1 << f;
            for (int g = 0; g < size; g++) {
                if ((within >> fromOf(g) & 1) != 0 && isLoop(g)) {
                    return g;
                }
            }
            return -1;
        }

        /**
         * The calls (bits) that the words of all loops have: a change of any
         * other call leaves a loop as it is. None, if there is no loop.
         */
        int callsOfEveryLoop() {
            int common = loopCount == 0 ? 0 : -1;
            for (int g = 0; g < size; g++) {
                if (isLoop(g)) {
                    common &= callsOf[g];
                }
            }
            return common;
        }

        private boolean isTogether(int f, int h) {
            return f == h || (comesTo[f] >> h & comesTo[h] >> f & 1) != 0;
        }

        private int firstOfComponent(int f) {
            for (int h = 0; h < f; h++) {
                if (isTogether(f, h)) {
                    return h;
                }
            }
            return f;
        }

        /** How many components have their first function below f. */
        int componentsBelow(int f) {
            int many = 0;
            for (int h = 0; h < f; h++) {
                many += bit(firstOfComponent(h) == h);
            }
            return many;
        }

        int componentOf(int f) {
            return componentsBelow(firstOfComponent(f));
        }
    }

    /** A row of cells of a lane, or nothing. */
    private static final class Sheet {
        static final int NOTHING = -1;
        static final int BYTES = 0;
        static final int SHORTS = 1;
        static final int INTS = 2;

        final int[] cells = new int[MOST_CELLS];
        int lane = NOTHING;
        int size;

        void begin(int newLane, int n) {
            lane = newLane;
            size = n;
            Arrays.fill(cells, 0);
        }

        /** What the machine would find, if so many cells from the first on were used as of a lane; 0. */
        int faultAt(int asLane, int first, int many) {
            if (lane == NOTHING) {
                return FAULT_NULL;
            }
            if (lane != asLane) {
                return FAULT_CAST;
            }
            return first < 0 || first > size - many ? FAULT_INDEX : 0;
        }

        void put(int i, int v) {
            if (lane == BYTES) {
                cells[i] = (byte) v;
            } else if (lane == SHORTS) {
                cells[i] = (short) v;
            } else {
                cells[i] = v;
            }
        }
    }
}
