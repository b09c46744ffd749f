import java.util.Arrays;

/**
 * Programs of blocks compacted for a wide machine along their likely ways.
 * The words of the comments (block, way, trace, item, split, off, guess, copied) are those of the document.
 */
public final class TraceDesk {
    public static final int NONE = -1;

    /** What the document answers where a thing that exists has no such part. */
    private static final int NO_SUCH = -2;

    private static final int TAPE_BYTES = 2000;
    private static final int MOST_TOKENS = 400;
    private static final int REGISTERS = 6;
    private static final int ALL_REGISTERS = (1 << REGISTERS) - 1;
    private static final int MOST_FRESH = 6;
    private static final int CELLS = 8;
    private static final int BLOCKS = 8;
    private static final int LINES = 6;
    private static final int WAYS = 2;
    private static final int SLOTS = 3;
    private static final int MOST_UNDONE = 40;
    private static final int MOST_COUNTED = 1000000;
    private static final int MOST_BEGUN = 200;
    private static final int TRACE_BLOCKS = 4;
    private static final int MOST_ITEMS = TRACE_BLOCKS * (LINES + 1) + MOST_FRESH;

    private static final int KINDS = 4;
    private static final int SUMS = 0;
    private static final int HARD = 1;
    private static final int CELL_KIND = 2;
    private static final int JUMPS = 3;
    private static final int MOST_UNITS = 4;
    private static final int MOST_LATENCY = 6;

    private static final int ADD = 0;
    private static final int SUBTRACT = 1;
    private static final int MULTIPLY = 2;
    private static final int DIVIDE = 3;
    private static final int LOAD = 4;
    private static final int STORE = 5;
    private static final int COPY = 6;
    private static final int GOTO = 7;
    private static final int IF = 8;
    private static final int STOP = 9;

    private static final int LINE_SORT = 0;
    private static final int COPY_SORT = 1;
    private static final int SPLIT_SORT = 2;
    private static final int EXIT_SORT = 3;

    private static final int STOPS = 0;
    private static final int FAULTS = 1;
    private static final int TOO_LONG = 2;

    private final byte[] tape = new byte[TAPE_BYTES];
    private int taped;
    private int faultPlace = NONE;
    private final Parser parser = new Parser();
    private Program program = new Program();
    private Program draft = new Program();
    private final State state = new State();
    private final History history = new History();
    private final Plan plan = new Plan();
    private final Runner slowRunner = new Runner();
    private final Runner fastRunner = new Runner();
    /** Plans and runs are worked out when asked for and kept till something changes them. */
    private boolean planKnown;
    private boolean slowKnown;
    private boolean fastKnown;

    public TraceDesk() {
        state.begin(program);
    }

    public int feed(int a, int b, int c, int d, int e) {
        if (taped + 20 > TAPE_BYTES) {
            return NONE;
        }
        append(a);
        append(b);
        append(c);
        append(d);
        append(e);
        return taped;
    }

    public int back(int n) {
        if (n < 0 || n > taped) {
            return NONE;
        }
        taped -= n;
        return taped;
    }

    public int read() {
        int fault = parser.parse(tape, taped, draft);
        faultPlace = parser.placeOfFault();
        taped = 0;
        if (fault != 0) {
            return fault;
        }
        Program former = program;
        program = draft;
        draft = former;
        program.findLive();
        state.begin(program);
        history.forgetDone();
        history.forgetHeld();
        forgetAll();
        return 0;
    }

    public int place() {
        return faultPlace;
    }

    public int reg(int reg) {
        return isRegister(reg) ? state.register(reg) : 0;
    }

    public int cell(int cell) {
        return isCell(cell) ? state.cellAt(cell) : 0;
    }

    public int kind(int kind, int what) {
        if (!isKind(kind) || what < 0 || what > 1) {
            return NONE;
        }
        return what == 0 ? state.unitsOf(kind) : state.latencyOf(kind);
    }

    public int block(int block, int what) {
        if (!program.hasBlock(block)) {
            return NONE;
        }
        switch (what) {
            case 0:
                return program.lineCounts[block];
            case 1:
                return program.ends[block].op - GOTO;
            case 2:
                return state.begunOf(block);
            case 3:
            case 4:
                return program.leadsTo(block, what - 3);
            case 5:
                return program.live[block];
            case 6:
                return knownPlan().traceOf(block);
            case 7:
                return knownPlan().placeOf(block);
            case 8:
                return knownPlan().joins(block) ? 1 : 0;
            default:
                return NONE;
        }
    }

    public int gone(int block, int way) {
        if (!program.hasBlock(block) || !isWay(way) || program.leadsTo(block, way) < 0) {
            return NONE;
        }
        return state.goneOf(block, way);
    }

    public boolean set(int reg, int value) {
        if (!isRegister(reg) || state.register(reg) == value) {
            return false;
        }
        history.note(state);
        state.setRegister(reg, value);
        forgetRuns();
        return true;
    }

    public boolean put(int cell, int value) {
        if (!isCell(cell) || state.cellAt(cell) == value) {
            return false;
        }
        history.note(state);
        state.setCell(cell, value);
        forgetRuns();
        return true;
    }

    public int run() {
        Runner ran = knownSlow();
        int outcome = ran.outcome;
        history.note(state);
        if (outcome == STOPS) {
            state.goOnFrom(ran.registers, ran.cells);
        }
        state.addCounts(ran.begunOf, ran.goneOf);
        forgetAll();
        return outcome;
    }

    public int clear() {
        int begun = state.allBegun();
        if (begun == 0) {
            return NONE;
        }
        history.note(state);
        state.clearCounts();
        forgetAll();
        return begun;
    }

    public boolean rename(boolean on) {
        if (state.renames() == on) {
            return false;
        }
        history.note(state);
        state.setRenames(on);
        forgetAll();
        return true;
    }

    public boolean units(int kind, int many, int latency) {
        if (!isKind(kind) || many < 1 || many > MOST_UNITS || latency < 1 || latency > MOST_LATENCY) {
            return false;
        }
        if (state.unitsOf(kind) == many && state.latencyOf(kind) == latency) {
            return false;
        }
        history.note(state);
        state.setUnits(kind, many, latency);
        forgetAll();
        return true;
    }

    public boolean undo() {
        if (!history.takeBack(state)) {
            return false;
        }
        forgetAll();
        return true;
    }

    public int traces() {
        return knownPlan().many;
    }

    public int trace(int trace, int what) {
        Trace asked = knownPlan().traceAt(trace);
        if (asked == null) {
            return NONE;
        }
        switch (what) {
            case 0:
                return asked.many;
            case 1:
                return asked.size;
            case 2:
                return asked.length;
            case 3:
                return asked.floor;
            case 4:
                return asked.path;
            case 5:
                return asked.splits;
            case 6:
                return asked.renamed;
            case 7:
                return asked.plain;
            case 8:
                return asked.guesses;
            case 9:
                return asked.copies;
            default:
                return NONE;
        }
    }

    public int member(int trace, int i) {
        Trace asked = knownPlan().traceAt(trace);
        return asked == null || i < 0 || i >= asked.many ? NONE : asked.blocks[i];
    }

    public int item(int trace, int item, int what) {
        Item asked = itemOf(knownPlan().traceAt(trace), item);
        if (asked == null) {
            return NONE;
        }
        switch (what) {
            case 0:
                return asked.sort;
            case 1:
                return asked.cycle;
            case 2:
                return asked.block;
            case 3:
                return asked.step.kindOf();
            case 4:
                return asked.height;
            case 5:
                return asked.step.sets;
            case 6:
                return asked.guess ? 1 : 0;
            case 7:
                return asked.copies;
            case 8:
                return asked.off;
            default:
                return NONE;
        }
    }

    public int needs(int trace, int i, int j) {
        Trace asked = knownPlan().traceAt(trace);
        if (itemOf(asked, i) == null || itemOf(asked, j) == null || i >= j) {
            return NONE;
        }
        return asked.needOf(i, j);
    }

    public int copied(int trace, int item, int k) {
        Trace asked = knownPlan().traceAt(trace);
        Item split = itemOf(asked, item);
        if (split == null || k < 0 || k >= split.copies) {
            return NONE;
        }
        int ahead = 0;
        for (int i = 0; i < item; i++) {
            if (asked.items[i].cycle > split.cycle) {
                if (ahead == k) {
                    return i;
                }
                ahead++;
            }
        }
        return NONE;
    }

    public int busy(int trace, int cycle, int kind) {
        Trace asked = knownPlan().traceAt(trace);
        if (asked == null || cycle < 0 || cycle >= asked.length || !isKind(kind)) {
            return NONE;
        }
        int found = 0;
        for (int i = 0; i < asked.size; i++) {
            if (asked.items[i].cycle == cycle && asked.items[i].step.kindOf() == kind) {
                found++;
            }
        }
        return found;
    }

    public int slow(int what) {
        switch (what) {
            case 0:
                return knownSlow().outcome;
            case 1:
                return knownSlow().cycles;
            case 2:
                return knownSlow().begun;
            default:
                return NONE;
        }
    }

    public int fast(int what) {
        switch (what) {
            case 0:
                return knownFast().outcome;
            case 1:
                return knownFast().cycles;
            case 2:
                return knownFast().begun;
            case 3:
                return knownFast().wentFast;
            case 4:
                return knownFast().wentOff;
            default:
                return NONE;
        }
    }

    public int agrees() {
        return knownSlow().comesToWhat(knownFast()) ? 1 : 0;
    }

    public int left(int which) {
        Runner ran = knownFast();
        if (ran.outcome != STOPS) {
            return 0;
        }
        if (isRegister(which)) {
            return ran.registers[which];
        }
        return which >= CELLS && which < CELLS + CELLS ? ran.cells[which - CELLS] : 0;
    }

    public int growth(int what) {
        switch (what) {
            case 0:
                return program.allLines() + program.blocks;
            case 1:
                return knownPlan().grown(program);
            case 2:
                return knownPlan().added(Plan.SPLITS);
            case 3:
                return knownPlan().joined;
            default:
                return NONE;
        }
    }

    public int saved(int kind) {
        return isKind(kind) ? knownPlan().savedBy(kind, state) : NONE;
    }

    public boolean hold(int slot) {
        if (!isSlot(slot)) {
            return false;
        }
        history.keep(slot, state);
        return true;
    }

    public boolean restore(int slot) {
        if (!isSlot(slot) || !history.holds(slot)) {
            return false;
        }
        history.bring(slot, state);
        history.forgetDone();
        forgetAll();
        return true;
    }

    public int count(int what) {
        switch (what) {
            case 0:
                return program.blocks;
            case 1:
                return program.allLines();
            case 2:
                return state.renames() ? 1 : 0;
            case 3:
                return state.allBegun();
            case 4:
                return knownPlan().added(Plan.LENGTHS);
            case 5:
                return knownPlan().added(Plan.FLOORS);
            case 6:
                return knownPlan().added(Plan.PLAINS);
            case 7:
                return knownPlan().added(Plan.GUESSES);
            case 8:
                return taped;
            case 9:
                return history.done;
            case 10:
                return knownPlan().added(Plan.RENAMED);
            case 11:
                return history.heldSlots();
            default:
                return NONE;
        }
    }

    private void append(int four) {
        for (int shift = 24; shift >= 0 && taped < TAPE_BYTES; shift -= 8) {
            tape[taped] = (byte) (four >> shift);
            taped++;
        }
    }

    private static boolean isRegister(int reg) {
        return reg >= 0 && reg < REGISTERS;
    }

    private static boolean isCell(int cell) {
        return cell >= 0 && cell < CELLS;
    }

    private static boolean isKind(int kind) {
        return kind >= 0 && kind < KINDS;
    }

    private static boolean isWay(int way) {
        return way >= 0 && way < WAYS;
    }

    private static boolean isSlot(int slot) {
        return slot >= 0 && slot < SLOTS;
    }

    private static Item itemOf(Trace trace, int item) {
        return trace == null || item < 0 || item >= trace.size ? null : trace.items[item];
    }

    private void forgetRuns() {
        slowKnown = false;
        fastKnown = false;
    }

    private void forgetAll() {
        planKnown = false;
        forgetRuns();
    }

    private Plan knownPlan() {
        if (!planKnown) {
            plan.chooseTraces(program, state);
            plan.findJoined(program);
            plan.layTraces(program, state);
            planKnown = true;
        }
        return plan;
    }

    private Runner knownSlow() {
        if (!slowKnown) {
            slowRunner.goSlow(program, state);
            slowKnown = true;
        }
        return slowRunner;
    }

    private Runner knownFast() {
        if (!fastKnown) {
            fastRunner.goFast(program, state, knownPlan());
            fastKnown = true;
        }
        return fastRunner;
    }

    /**
     * One thing to do: a line, a copy, or an end.
     * Its values are one int each: 0 and more a number, below 0 the register ~value.
     */
    private static final class Step {
        int op;
        int sets;
        int left;
        int right;

        void tell(int newOp, int newSets, int newLeft, int newRight) {
            op = newOp;
            sets = newSets;
            left = newLeft;
            right = newRight;
        }

        int kindOf() {
            switch (op) {
                case MULTIPLY:
                case DIVIDE:
                    return HARD;
                case LOAD:
                case STORE:
                    return CELL_KIND;
                case GOTO:
                case IF:
                case STOP:
                    return JUMPS;
                default:
                    return SUMS;
            }
        }

        boolean looksAt(int register) {
            return register >= 0 && (left == ~register || right == ~register);
        }

        /** Which of the six registers are read, as bits. */
        int registersRead() {
            return bitOf(left) | bitOf(right);
        }

        private static int bitOf(int value) {
            return value < 0 && ~value < REGISTERS ? 1 << ~value : 0;
        }
    }

    /** What a text tells: blocks, their lines and ends, units; and what follows from that alone. */
    private static final class Program {
        int blocks;
        final int[] lineCounts = new int[BLOCKS];
        final Step[] lines = new Step[BLOCKS * LINES];
        final Step[] ends = new Step[BLOCKS];
        final int[] ways = new int[BLOCKS * WAYS];
        final int[] live = new int[BLOCKS];
        final int[] units = new int[KINDS];
        final int[] latencies = new int[KINDS];

        Program() {
            for (int i = 0; i < lines.length; i++) {
                lines[i] = new Step();
            }
            for (int i = 0; i < ends.length; i++) {
                ends[i] = new Step();
            }
            startAnew();
        }

        void startAnew() {
            blocks = 0;
            Arrays.fill(units, 1);
            latencies[SUMS] = 1;
            latencies[HARD] = 3;
            latencies[CELL_KIND] = 2;
            latencies[JUMPS] = 1;
        }

        boolean hasBlock(int block) {
            return block >= 0 && block < blocks;
        }

        /** The number of the new block; the caller has looked whether there is room. */
        int addBlock() {
            int block = blocks;
            blocks++;
            lineCounts[block] = 0;
            ends[block].tell(STOP, NO_SUCH, 0, 0);
            ways[block * WAYS] = NO_SUCH;
            ways[block * WAYS + 1] = NO_SUCH;
            return block;
        }

        void addLine(int block, int op, int sets, int left, int right) {
            if (lineCounts[block] < LINES) {
                lines[block * LINES + lineCounts[block]].tell(op, sets, left, right);
                lineCounts[block]++;
            }
        }

        int leadsTo(int block, int way) {
            return ways[block * WAYS + way];
        }

        int allLines() {
            int all = 0;
            for (int block = 0; block < blocks; block++) {
                all += lineCounts[block];
            }
            return all;
        }

        /** Sets of live registers only grow, and by one of 48 bits a pass at least, so the passes end. */
        void findLive() {
            Arrays.fill(live, 0);
            boolean grew = true;
            for (int pass = 0; grew && pass <= BLOCKS * REGISTERS; pass++) {
                grew = false;
                for (int block = blocks - 1; block >= 0; block--) {
                    int found = liveAtBeginning(block);
                    grew = grew || found != live[block];
                    live[block] = found;
                }
            }
        }

        private int liveAtBeginning(int block) {
            int found = ends[block].op == STOP ? ALL_REGISTERS : ends[block].registersRead();
            for (int way = 0; way < WAYS; way++) {
                int next = leadsTo(block, way);
                found |= hasBlock(next) ? live[next] : 0;
            }
            for (int i = lineCounts[block] - 1; i >= 0; i--) {
                Step line = lines[block * LINES + i];
                if (line.sets >= 0) {
                    found &= ~(1 << line.sets);
                }
                found |= line.registersRead();
            }
            return found;
        }
    }

    /**
     * The tokens of a text, 401 at most. The sort of a word is its place in WORDS,
     * that of a sign its byte, all of which are above the sorts named here.
     */
    private static final class Tokens {
        static final int UNITS_WORD = 0;
        static final int BLOCK_WORD = 1;
        static final int SUMS_WORD = 2;
        static final int AT_WORD = 6;
        static final int GOTO_WORD = 7;
        static final int IF_WORD = 8;
        static final int ELSE_WORD = 9;
        static final int STOP_WORD = 10;
        static final int A_WORD = 11;
        static final int NAME = 17;
        static final int NUMBER = 18;
        static final int TEXT_END = 19;
        static final int NO_TOKEN = 20;

        private static final String WORDS = "units block sums hard cells jumps at goto if else stop a b c d e f ";
        private static final int MANY_WORDS = 17;
        private static final int MOST_LETTERS = 8;
        private static final int MOST_DIGITS = 4;

        private final long[] words = new long[MANY_WORDS];
        private final int[] sorts = new int[MOST_TOKENS + 2];
        private final int[] places = new int[MOST_TOKENS + 2];
        private final long[] values = new long[MOST_TOKENS + 2];
        private int many;

        Tokens() {
            int word = 0;
            for (int i = 0; i < WORDS.length() && word < MANY_WORDS; i++) {
                char sign = WORDS.charAt(i);
                if (sign == ' ') {
                    word++;
                } else {
                    words[word] = withLetter(words[word], sign);
                }
            }
        }

        /** Letters count from 1 on, so that texts of different lengths are different numbers. */
        private static long withLetter(long packed, int letter) {
            return packed * 32 + (letter - 'a' + 1);
        }

        int sortAt(int token) {
            return token >= 0 && token < many ? sorts[token] : TEXT_END;
        }

        int placeAt(int token) {
            return token >= 0 && token < many ? places[token] : 0;
        }

        long valueAt(int token) {
            return token >= 0 && token < many ? values[token] : 0;
        }

        /** Goes on to the end, to what is no token, or to the token that is one too many. */
        void scan(byte[] bytes, int length) {
            many = 0;
            int at = 0;
            boolean more = true;
            for (int n = 0; more && n <= MOST_TOKENS; n++) {
                at = behindBlanks(bytes, length, at);
                if (at >= length) {
                    add(TEXT_END, length, 0);
                    more = false;
                } else {
                    int end = endOfToken(bytes, length, at);
                    addFrom(bytes, at, end);
                    more = sorts[many - 1] != NO_TOKEN;
                    at = end;
                }
            }
        }

        private void add(int sort, int place, long value) {
            if (many < sorts.length) {
                sorts[many] = sort;
                places[many] = place;
                values[many] = value;
                many++;
            }
        }

        private void addFrom(byte[] bytes, int at, int end) {
            if (isLetter(bytes[at])) {
                long packed = packedLetters(bytes, at, end);
                add(end - at > MOST_LETTERS ? NO_TOKEN : sortOfWord(packed), at, packed);
            } else if (isDigit(bytes[at])) {
                add(end - at > MOST_DIGITS ? NO_TOKEN : NUMBER, at, number(bytes, at, end));
            } else {
                add(isSign(bytes[at]) ? bytes[at] : NO_TOKEN, at, 0);
            }
        }

        private int sortOfWord(long packed) {
            for (int word = 0; word < MANY_WORDS; word++) {
                if (words[word] == packed) {
                    return word;
                }
            }
            return NAME;
        }

        private static int behindBlanks(byte[] bytes, int length, int from) {
            int at = from;
            while (at < length && isBlank(bytes[at])) {
                at++;
            }
            return at;
        }

        private static int endOfToken(byte[] bytes, int length, int from) {
            boolean letters = isLetter(bytes[from]);
            boolean digits = isDigit(bytes[from]);
            int at = from + 1;
            while (at < length && (letters && isLetter(bytes[at]) || digits && isDigit(bytes[at]))) {
                at++;
            }
            return at;
        }

        private static long packedLetters(byte[] bytes, int from, int end) {
            long packed = 0;
            for (int i = from; i < end; i++) {
                packed = withLetter(packed, bytes[i]);
            }
            return packed;
        }

        private static long number(byte[] bytes, int from, int end) {
            long number = 0;
            for (int i = from; i < end; i++) {
                number = number * 10 + (bytes[i] - '0');
            }
            return number;
        }

        private static boolean isBlank(int sign) {
            return sign == 9 || sign == 10 || sign == 13 || sign == 32;
        }

        private static boolean isLetter(int sign) {
            return sign >= 'a' && sign <= 'z';
        }

        private static boolean isDigit(int sign) {
            return sign >= '0' && sign <= '9';
        }

        private static boolean isSign(int sign) {
            return sign == ';' || sign == '=' || sign == '<' || sign == '+' || sign == '-' || sign == '*' || sign == '/';
        }
    }

    /** Makes a program of a text, or finds its fault. Behind a fault all its methods do nothing more. */
    private static final class Parser {
        private static final int SYNTAX = 1;
        private static final int ROOM = 2;
        private static final int TWICE = 3;
        private static final int UNKNOWN = 4;
        private static final int WRONG = 5;

        private final Tokens tokens = new Tokens();
        private final long[] names = new long[BLOCKS];
        private final long[] wayNames = new long[BLOCKS * WAYS];
        private final int[] wayPlaces = new int[BLOCKS * WAYS];
        private Program into;
        /** The token that is looked at; behind a fault it stays where that is. */
        private int at;
        private int fault;
        private int faultPlace;
        /** The first fault of those that count only if the whole text is well formed. */
        private int laterFault;
        private int laterPlace;

        int parse(byte[] bytes, int length, Program program) {
            into = program;
            into.startAnew();
            Arrays.fill(wayNames, 0);
            at = 0;
            fault = 0;
            laterFault = 0;
            laterPlace = NONE;
            tokens.scan(bytes, length);
            for (int n = 0; n <= MOST_TOKENS && fault == 0 && !sees(Tokens.TEXT_END); n++) {
                if (sees(Tokens.UNITS_WORD)) {
                    parseUnits();
                } else if (sees(Tokens.BLOCK_WORD)) {
                    parseBlock();
                } else {
                    fail(SYNTAX);
                }
            }
            if (fault == 0) {
                resolveWays();
                fault = laterFault;
                faultPlace = laterPlace;
            } else {
                faultPlace = tokens.placeAt(at);
            }
            return fault;
        }

        int placeOfFault() {
            return faultPlace;
        }

        private void parseUnits() {
            take();
            int told = tokens.sortAt(at) - Tokens.SUMS_WORD;
            if (told < 0 || told >= KINDS) {
                fail(SYNTAX);
                return;
            }
            take();
            int many = takeUpTo(MOST_UNITS);
            int latency = takeUpTo(MOST_LATENCY);
            expect(';');
            if (fault == 0) {
                into.units[told] = many;
                into.latencies[told] = latency;
            }
        }

        private int takeUpTo(int most) {
            int place = tokens.placeAt(at);
            int number = (int) tokens.valueAt(at);
            expect(Tokens.NUMBER);
            if (fault == 0 && (number < 1 || number > most)) {
                failLater(WRONG, place);
            }
            return number;
        }

        private void parseBlock() {
            if (into.blocks >= BLOCKS) {
                fail(ROOM);
                return;
            }
            take();
            int added = into.addBlock();
            tellName(added);
            expect(';');
            for (int n = 0; n < LINES && seesLine(); n++) {
                parseLine(added);
            }
            if (seesLine()) {
                fail(ROOM);
            } else {
                parseEnd(added);
            }
        }

        private void tellName(int added) {
            int place = tokens.placeAt(at);
            names[added] = tokens.valueAt(at);
            expect(Tokens.NAME);
            if (fault == 0 && blockNamed(names[added], added) != NONE) {
                failLater(TWICE, place);
            }
        }

        private boolean seesLine() {
            return fault == 0 && (seesRegister() || sees(Tokens.AT_WORD));
        }

        private void parseLine(int added) {
            if (sees(Tokens.AT_WORD)) {
                take();
                int address = takeValue();
                expect('=');
                int value = takeValue();
                into.addLine(added, STORE, NO_SUCH, address, value);
            } else {
                int register = takeRegister();
                expect('=');
                if (sees(Tokens.AT_WORD)) {
                    take();
                    into.addLine(added, LOAD, register, takeValue(), 0);
                } else {
                    int left = takeValue();
                    int op = takeOp();
                    int right = takeValue();
                    into.addLine(added, op, register, left, right);
                }
            }
            expect(';');
        }

        private void parseEnd(int added) {
            if (sees(Tokens.STOP_WORD)) {
                take();
            } else if (sees(Tokens.GOTO_WORD)) {
                take();
                into.ends[added].tell(GOTO, NO_SUCH, 0, 0);
                tellWay(added, 0);
            } else if (sees(Tokens.IF_WORD)) {
                take();
                int register = takeRegister();
                expect('<');
                into.ends[added].tell(IF, NO_SUCH, ~register, takeValue());
                expect(Tokens.GOTO_WORD);
                tellWay(added, 0);
                expect(Tokens.ELSE_WORD);
                tellWay(added, 1);
            } else {
                fail(SYNTAX);
            }
            expect(';');
        }

        private void tellWay(int from, int way) {
            wayPlaces[from * WAYS + way] = tokens.placeAt(at);
            wayNames[from * WAYS + way] = tokens.valueAt(at);
            expect(Tokens.NAME);
        }

        private void resolveWays() {
            for (int i = 0; i < into.blocks * WAYS; i++) {
                if (wayNames[i] != 0) {
                    into.ways[i] = blockNamed(wayNames[i], into.blocks);
                    if (into.ways[i] == NONE) {
                        failLater(UNKNOWN, wayPlaces[i]);
                    }
                }
            }
        }

        private int blockNamed(long name, int below) {
            for (int i = 0; i < below && i < BLOCKS; i++) {
                if (names[i] == name) {
                    return i;
                }
            }
            return NONE;
        }

        private boolean sees(int sort) {
            return tokens.sortAt(at) == sort;
        }

        private boolean seesRegister() {
            int register = tokens.sortAt(at) - Tokens.A_WORD;
            return isRegister(register);
        }

        private int takeRegister() {
            int register = tokens.sortAt(at) - Tokens.A_WORD;
            if (!isRegister(register)) {
                fail(SYNTAX);
                return 0;
            }
            take();
            return register;
        }

        private int takeValue() {
            if (seesRegister()) {
                return ~takeRegister();
            }
            int number = (int) tokens.valueAt(at);
            expect(Tokens.NUMBER);
            return number;
        }

        private int takeOp() {
            int sign = tokens.sortAt(at);
            switch (sign) {
                case '+':
                    take();
                    return ADD;
                case '-':
                    take();
                    return SUBTRACT;
                case '*':
                    take();
                    return MULTIPLY;
                case '/':
                    take();
                    return DIVIDE;
                default:
                    fail(SYNTAX);
                    return ADD;
            }
        }

        private void expect(int sort) {
            if (sees(sort)) {
                take();
            } else {
                fail(SYNTAX);
            }
        }

        /** A token is looked at before it is taken, so of one place syntax comes before room. */
        private void take() {
            if (at >= MOST_TOKENS) {
                fail(ROOM);
            } else if (fault == 0) {
                at++;
            }
        }

        private void fail(int number) {
            if (fault == 0) {
                fault = number;
            }
        }

        private void failLater(int number, int place) {
            if (laterFault == 0 || place < laterPlace) {
                laterFault = number;
                laterPlace = place;
            }
        }
    }

    /** All that calls change beside the text and the tape, in one row, so that it is held by one copy. */
    private static final class State {
        private static final int CELLS_AT = REGISTERS;
        private static final int BEGUN_AT = CELLS_AT + CELLS;
        private static final int GONE_AT = BEGUN_AT + BLOCKS;
        private static final int UNITS_AT = GONE_AT + BLOCKS * WAYS;
        private static final int LATENCIES_AT = UNITS_AT + KINDS;
        private static final int RENAMES_AT = LATENCIES_AT + KINDS;
        static final int SIZE = RENAMES_AT + 1;

        final int[] row = new int[SIZE];

        void begin(Program program) {
            Arrays.fill(row, 0);
            System.arraycopy(program.units, 0, row, UNITS_AT, KINDS);
            System.arraycopy(program.latencies, 0, row, LATENCIES_AT, KINDS);
            row[RENAMES_AT] = 1;
        }

        int register(int register) {
            return row[register];
        }

        int cellAt(int number) {
            return row[CELLS_AT + number];
        }

        int begunOf(int number) {
            return row[BEGUN_AT + number];
        }

        int goneOf(int number, int way) {
            return row[GONE_AT + number * WAYS + way];
        }

        int unitsOf(int number) {
            return row[UNITS_AT + number];
        }

        int latencyOf(int number) {
            return row[LATENCIES_AT + number];
        }

        boolean renames() {
            return row[RENAMES_AT] == 1;
        }

        void setRegister(int register, int value) {
            row[register] = value;
        }

        void setCell(int number, int value) {
            row[CELLS_AT + number] = value;
        }

        void setRenames(boolean on) {
            row[RENAMES_AT] = on ? 1 : 0;
        }

        void setUnits(int number, int many, int latency) {
            row[UNITS_AT + number] = many;
            row[LATENCIES_AT + number] = latency;
        }

        void goOnFrom(int[] registers, int[] cells) {
            System.arraycopy(registers, 0, row, 0, REGISTERS);
            System.arraycopy(cells, 0, row, CELLS_AT, CELLS);
        }

        void addCounts(int[] begun, int[] gone) {
            for (int i = 0; i < BLOCKS; i++) {
                row[BEGUN_AT + i] = Math.min(MOST_COUNTED, row[BEGUN_AT + i] + begun[i]);
            }
            for (int i = 0; i < BLOCKS * WAYS; i++) {
                row[GONE_AT + i] = Math.min(MOST_COUNTED, row[GONE_AT + i] + gone[i]);
            }
        }

        void clearCounts() {
            for (int i = BEGUN_AT; i < UNITS_AT; i++) {
                row[i] = 0;
            }
        }

        int allBegun() {
            int all = 0;
            for (int i = 0; i < BLOCKS; i++) {
                all += begunOf(i);
            }
            return all;
        }
    }

    /** What was ahead of the last things done, in a ring, and what the slots hold. */
    private static final class History {
        private final int[][] ring = new int[MOST_UNDONE][State.SIZE];
        private final int[][] slots = new int[SLOTS][State.SIZE];
        private final boolean[] held = new boolean[SLOTS];
        private int newest;
        int done;

        void note(State state) {
            newest = (newest + 1) % MOST_UNDONE;
            System.arraycopy(state.row, 0, ring[newest], 0, State.SIZE);
            done = Math.min(MOST_UNDONE, done + 1);
        }

        boolean takeBack(State state) {
            if (done == 0) {
                return false;
            }
            System.arraycopy(ring[newest], 0, state.row, 0, State.SIZE);
            newest = (newest + MOST_UNDONE - 1) % MOST_UNDONE;
            done--;
            return true;
        }

        void forgetDone() {
            done = 0;
        }

        void forgetHeld() {
            for (int slot = 0; slot < SLOTS; slot++) {
                held[slot] = false;
            }
        }

        void keep(int slot, State state) {
            System.arraycopy(state.row, 0, slots[slot], 0, State.SIZE);
            held[slot] = true;
        }

        boolean holds(int slot) {
            return held[slot];
        }

        void bring(int slot, State state) {
            System.arraycopy(slots[slot], 0, state.row, 0, State.SIZE);
        }

        int heldSlots() {
            int found = 0;
            for (int slot = 0; slot < SLOTS; slot++) {
                found += held[slot] ? 1 : 0;
            }
            return found;
        }
    }

    /** A step of a trace, with the registers that it reads and sets there, and where it was laid. */
    private static final class Item {
        final Step step = new Step();
        int sort;
        int block;
        int latency;
        /** Of a split: the way that leaves the trace, and the block to which that leads. */
        int offWay;
        int off;
        /** The last split ahead; splits stand in rising cycles, so it alone tells a guess. */
        int guard;
        int cycle;
        int height;
        int copies;
        boolean guess;

        void begin(int newSort, int newBlock, int newGuard) {
            sort = newSort;
            block = newBlock;
            guard = newGuard;
            offWay = NO_SUCH;
            off = NO_SUCH;
            cycle = 0;
            height = 0;
            copies = 0;
            guess = false;
        }

        boolean does(int op) {
            return step.op == op;
        }

        boolean isSplit() {
            return sort == SPLIT_SORT;
        }
    }

    /** A row of blocks laid in cycles. */
    private static final class Trace {
        final int[] blocks = new int[TRACE_BLOCKS];
        int many;
        final Item[] items = new Item[MOST_ITEMS];
        int size;
        int splits;
        int renamed;
        int plain;
        int path;
        int floor;
        int length;
        int guesses;
        int copies;
        /** The items in the order of their cycles. */
        final int[] order = new int[MOST_ITEMS];
        private final int[] needs = new int[MOST_ITEMS * MOST_ITEMS];
        /** Under which number each register is read now, while items are gathered. */
        private final int[] readAs = new int[REGISTERS];
        /** The item that last set each register, while needs are found. */
        private final int[] setBy = new int[REGISTERS + MOST_FRESH];
        private int lastSplit;
        private int liveOff;

        Trace() {
            for (int i = 0; i < items.length; i++) {
                items[i] = new Item();
            }
        }

        void beginWith(int block) {
            many = 1;
            blocks[0] = block;
        }

        int lastBlock() {
            return many > 0 && many <= TRACE_BLOCKS ? blocks[many - 1] : NONE;
        }

        void growAtEnd(int block) {
            if (many < TRACE_BLOCKS) {
                blocks[many] = block;
                many++;
            }
        }

        void growAtBeginning(int block) {
            if (many < TRACE_BLOCKS) {
                for (int place = many; place > 0; place--) {
                    blocks[place] = blocks[place - 1];
                }
                blocks[0] = block;
                many++;
            }
        }

        int needOf(int i, int j) {
            return needs[i * MOST_ITEMS + j];
        }

        void gather(Program program, boolean renames) {
            size = 0;
            splits = 0;
            renamed = 0;
            lastSplit = NONE;
            liveOff = 0;
            for (int register = 0; register < REGISTERS; register++) {
                readAs[register] = register;
            }
            for (int place = 0; place < many; place++) {
                int block = blocks[place];
                for (int i = 0; i < program.lineCounts[block]; i++) {
                    addLine(program.lines[block * LINES + i], block, renames);
                }
                addEnd(program, place);
            }
        }

        private Item addItem(int sort, int block) {
            if (size < MOST_ITEMS) {
                size++;
            }
            Item added = items[size - 1];
            added.begin(sort, block, lastSplit);
            return added;
        }

        private int asRead(int value) {
            return value < 0 && ~value < REGISTERS ? ~readAs[~value] : value;
        }

        private void addLine(Step line, int block, boolean renames) {
            Item added = addItem(LINE_SORT, block);
            int register = line.sets;
            added.step.tell(line.op, register, asRead(line.left), asRead(line.right));
            if (register < 0) {
                return;
            }
            if (renames && renamed < MOST_FRESH && (liveOff >> register & 1) == 1) {
                int fresh = REGISTERS + renamed;
                added.step.sets = fresh;
                readAs[register] = fresh;
                renamed++;
                addItem(COPY_SORT, block).step.tell(COPY, register, ~fresh, 0);
            } else {
                readAs[register] = register;
            }
        }

        private void addEnd(Program program, int place) {
            int block = blocks[place];
            Step end = program.ends[block];
            if (place == many - 1) {
                addItem(EXIT_SORT, block).step.tell(end.op, NO_SUCH, asRead(end.left), asRead(end.right));
                return;
            }
            int next = blocks[place + 1];
            int offWay = program.leadsTo(block, 0) == next ? 1 : 0;
            int off = program.leadsTo(block, offWay);
            if (end.op == IF && off != next) {
                Item split = addItem(SPLIT_SORT, block);
                split.step.tell(IF, NO_SUCH, asRead(end.left), asRead(end.right));
                split.offWay = offWay;
                split.off = off;
                splits++;
                lastSplit = size - 1;
                liveOff |= program.live[off];
            }
        }

        void findNeeds(Program program, State state) {
            Arrays.fill(setBy, NONE);
            plain = 0;
            for (int j = 0; j < size; j++) {
                Item item = items[j];
                item.latency = state.latencyOf(item.step.kindOf());
                plain += item.sort == COPY_SORT ? 0 : item.latency;
                for (int i = 0; i < j; i++) {
                    needs[i * MOST_ITEMS + j] = needOfOrder(items[i], item, program);
                }
                needWhatSet(item.step.left, j);
                needWhatSet(item.step.right, j);
                if (item.step.sets >= 0) {
                    setBy[item.step.sets] = j;
                }
            }
            findHeights();
        }

        /** What one needs of another that is ahead, but for what it reads of it. */
        private static int needOfOrder(Item ahead, Item behind, Program program) {
            int sets = behind.step.sets;
            int need = NO_SUCH;
            if (behind.sort == EXIT_SORT || ahead.step.looksAt(sets) || ahead.does(LOAD) && behind.does(STORE)) {
                need = 0;
            }
            if (ahead.does(STORE) && behind.does(STORE) || ahead.isSplit() && waitsForSplit(ahead, behind, program)) {
                need = 1;
            }
            if (ahead.does(STORE) && behind.does(LOAD)) {
                need = Math.max(need, ahead.latency);
            }
            if (sets >= 0 && ahead.step.sets == sets) {
                need = Math.max(need, Math.max(1, ahead.latency - behind.latency + 1));
            }
            return need;
        }

        private static boolean waitsForSplit(Item split, Item behind, Program program) {
            int sets = behind.step.sets;
            boolean setsLive = sets >= 0 && sets < REGISTERS && (program.live[split.off] >> sets & 1) == 1;
            return behind.isSplit() || behind.sort == EXIT_SORT || behind.does(STORE) || setsLive;
        }

        private void needWhatSet(int value, int j) {
            int i = value < 0 && ~value < setBy.length ? setBy[~value] : NONE;
            if (i >= 0) {
                needs[i * MOST_ITEMS + j] = Math.max(needOf(i, j), items[i].latency);
            }
        }

        private void findHeights() {
            path = 0;
            for (int i = size - 1; i >= 0; i--) {
                for (int j = i + 1; j < size; j++) {
                    if (needOf(i, j) >= 0) {
                        items[i].height = Math.max(items[i].height, needOf(i, j) + items[j].height);
                    }
                }
                path = Math.max(path, items[i].height + 1);
            }
        }

        void findFloor(int[] units) {
            floor = path;
            for (int kind = 0; kind < KINDS; kind++) {
                int found = 0;
                for (int i = 0; i < size; i++) {
                    found += items[i].step.kindOf() == kind ? 1 : 0;
                }
                int many = Math.max(1, units[kind]);
                floor = Math.max(floor, (found + many - 1) / many);
            }
        }

        void layAs(Lister lister) {
            for (int i = 0; i < size; i++) {
                items[i].cycle = lister.cycles[i];
                order[i] = lister.order[i];
            }
            length = size > 0 ? items[size - 1].cycle + 1 : 0;
            guesses = 0;
            copies = 0;
            for (int i = 0; i < size; i++) {
                Item item = items[i];
                item.guess = item.sort == LINE_SORT && item.guard >= 0 && item.cycle <= items[item.guard].cycle;
                guesses += item.guess ? 1 : 0;
                item.copies = item.isSplit() ? laterAhead(i) : 0;
                copies += item.copies;
            }
        }

        private int laterAhead(int split) {
            int found = 0;
            for (int i = 0; i < split; i++) {
                found += items[i].cycle > items[split].cycle ? 1 : 0;
            }
            return found;
        }
    }

    /** Lays the items of a trace in cycles. */
    private static final class Lister {
        /** Far above 34 items of 6 cycles each. */
        private static final int MOST_CYCLES = 10000;

        final int[] cycles = new int[MOST_ITEMS];
        final int[] order = new int[MOST_ITEMS];
        private final int[] earliest = new int[MOST_ITEMS];
        /** How many that it needs are not laid yet. */
        private final int[] awaits = new int[MOST_ITEMS];
        private final int[] free = new int[KINDS];
        private int laid;

        /** The length of the trace so laid. */
        int lay(Trace trace, int[] units) {
            begin(trace);
            for (int cycle = 0; cycle < MOST_CYCLES && laid < trace.size; cycle++) {
                System.arraycopy(units, 0, free, 0, KINDS);
                int chosen = choose(trace, cycle);
                for (int n = 0; n < trace.size && chosen != NONE; n++) {
                    layItem(trace, chosen, cycle);
                    chosen = choose(trace, cycle);
                }
            }
            return trace.size > 0 ? cycles[trace.size - 1] + 1 : 0;
        }

        private void begin(Trace trace) {
            laid = 0;
            for (int j = 0; j < trace.size; j++) {
                cycles[j] = NONE;
                earliest[j] = 0;
                awaits[j] = 0;
                for (int i = 0; i < j; i++) {
                    awaits[j] += trace.needOf(i, j) >= 0 ? 1 : 0;
                }
            }
        }

        private int choose(Trace trace, int cycle) {
            int chosen = NONE;
            for (int j = 0; j < trace.size; j++) {
                boolean ready = cycles[j] == NONE && awaits[j] == 0 && earliest[j] <= cycle;
                if (ready && free[trace.items[j].step.kindOf()] > 0) {
                    if (chosen == NONE || trace.items[j].height > trace.items[chosen].height) {
                        chosen = j;
                    }
                }
            }
            return chosen;
        }

        private void layItem(Trace trace, int i, int cycle) {
            cycles[i] = cycle;
            order[laid] = i;
            laid++;
            free[trace.items[i].step.kindOf()]--;
            for (int j = i + 1; j < trace.size; j++) {
                int need = trace.needOf(i, j);
                if (need >= 0) {
                    earliest[j] = Math.max(earliest[j], cycle + need);
                    awaits[j]--;
                }
            }
        }
    }

    /** All traces of a program, as its counts, units and renaming are. */
    private static final class Plan {
        static final int SPLITS = 0;
        static final int LENGTHS = 1;
        static final int FLOORS = 2;
        static final int PLAINS = 3;
        static final int GUESSES = 4;
        static final int RENAMED = 5;
        static final int ITEMS = 6;
        static final int COPIES = 7;

        int many;
        int joined;
        private final Trace[] traces = new Trace[BLOCKS];
        private final int[] traceOf = new int[BLOCKS];
        private final int[] placeOf = new int[BLOCKS];
        private final int[] units = new int[KINDS];
        private final Lister lister = new Lister();

        Plan() {
            for (int i = 0; i < traces.length; i++) {
                traces[i] = new Trace();
            }
        }

        Trace traceAt(int number) {
            return number >= 0 && number < many ? traces[number] : null;
        }

        int traceOf(int number) {
            return traceOf[number];
        }

        int placeOf(int number) {
            return placeOf[number];
        }

        boolean joins(int number) {
            return (joined >> number & 1) == 1;
        }

        /** The trace whose first block this is, or null. */
        Trace startedBy(int number) {
            return placeOf[number] == 0 ? traceAt(traceOf[number]) : null;
        }

        void layTraces(Program program, State state) {
            for (int i = 0; i < KINDS; i++) {
                units[i] = state.unitsOf(i);
            }
            for (int i = 0; i < many; i++) {
                Trace made = traces[i];
                made.gather(program, state.renames());
                made.findNeeds(program, state);
                made.findFloor(units);
                lister.lay(made, units);
                made.layAs(lister);
            }
        }

        void chooseTraces(Program program, State state) {
            many = 0;
            Arrays.fill(traceOf, NONE);
            int first = mostBegun(program, state);
            for (int n = 0; n < BLOCKS && first != NONE; n++) {
                Trace grown = traces[n];
                grown.beginWith(first);
                traceOf[first] = n;
                many++;
                growAtEnd(grown, n, program, state);
                growAtBeginning(grown, n, program, state);
                for (int place = 0; place < grown.many; place++) {
                    placeOf[grown.blocks[place]] = place;
                }
                first = mostBegun(program, state);
            }
        }

        private int mostBegun(Program program, State state) {
            int most = NONE;
            for (int i = 0; i < program.blocks; i++) {
                if (traceOf[i] == NONE && (most == NONE || state.begunOf(i) > state.begunOf(most))) {
                    most = i;
                }
            }
            return most;
        }

        private void growAtEnd(Trace grown, int number, Program program, State state) {
            for (int n = 1; n < TRACE_BLOCKS; n++) {
                int last = grown.lastBlock();
                int way = likelyWay(last, program, state);
                int next = way == NONE ? NONE : program.leadsTo(last, way);
                if (next < 0 || traceOf[next] != NONE) {
                    return;
                }
                int coming = likelyComing(next, program, state);
                if (coming != NONE && state.goneOf(coming / WAYS, coming % WAYS) > state.goneOf(last, way)) {
                    return;
                }
                grown.growAtEnd(next);
                traceOf[next] = number;
            }
        }

        private void growAtBeginning(Trace grown, int number, Program program, State state) {
            for (int n = grown.many; n < TRACE_BLOCKS; n++) {
                int coming = likelyComing(grown.blocks[0], program, state);
                if (coming == NONE) {
                    return;
                }
                int from = coming / WAYS;
                if (traceOf[from] != NONE || likelyWay(from, program, state) != coming % WAYS) {
                    return;
                }
                grown.growAtBeginning(from);
                traceOf[from] = number;
            }
        }

        /** The way of a block's end that was gone most, way 0 of alike ones; NONE: its end has none. */
        private static int likelyWay(int from, Program program, State state) {
            if (program.leadsTo(from, 0) < 0) {
                return NONE;
            }
            if (program.leadsTo(from, 1) < 0) {
                return 0;
            }
            return state.goneOf(from, 1) > state.goneOf(from, 0) ? 1 : 0;
        }

        /** The way to a block that was gone most, the first of alike ones, as block * WAYS + way; or NONE. */
        private static int likelyComing(int to, Program program, State state) {
            int likely = NONE;
            int most = NONE;
            for (int from = 0; from < program.blocks; from++) {
                for (int way = 0; way < WAYS; way++) {
                    if (program.leadsTo(from, way) == to && state.goneOf(from, way) > most) {
                        likely = from * WAYS + way;
                        most = state.goneOf(from, way);
                    }
                }
            }
            return likely;
        }

        void findJoined(Program program) {
            joined = 0;
            for (int i = 0; i < many; i++) {
                Trace made = traces[i];
                for (int place = 1; place < made.many; place++) {
                    int ahead = made.blocks[place - 1];
                    int here = made.blocks[place];
                    if (here == 0 || joins(ahead) || comesFromElsewhere(here, ahead, program)) {
                        joined |= 1 << here;
                    }
                }
            }
        }

        private static boolean comesFromElsewhere(int to, int ahead, Program program) {
            for (int from = 0; from < program.blocks; from++) {
                boolean leads = program.leadsTo(from, 0) == to || program.leadsTo(from, 1) == to;
                if (leads && from != ahead) {
                    return true;
                }
            }
            return false;
        }

        int added(int what) {
            int all = 0;
            for (int i = 0; i < many; i++) {
                all += partOf(traces[i], what);
            }
            return all;
        }

        private static int partOf(Trace made, int what) {
            switch (what) {
                case SPLITS:
                    return made.splits;
                case LENGTHS:
                    return made.length;
                case FLOORS:
                    return made.floor;
                case PLAINS:
                    return made.plain;
                case GUESSES:
                    return made.guesses;
                case RENAMED:
                    return made.renamed;
                case ITEMS:
                    return made.size;
                case COPIES:
                    return made.copies;
                default:
                    return 0;
            }
        }

        int grown(Program program) {
            int all = added(ITEMS) + added(COPIES);
            for (int i = 0; i < program.blocks; i++) {
                all += joins(i) ? program.lineCounts[i] + 1 : 0;
            }
            return all;
        }

        int savedBy(int kind, State state) {
            int all = 0;
            int usual = units[kind];
            units[kind] = Math.min(MOST_UNITS, usual + 1);
            for (int i = 0; i < many; i++) {
                all += (traces[i].length - lister.lay(traces[i], units)) * state.begunOf(traces[i].blocks[0]);
            }
            units[kind] = usual;
            return all;
        }
    }

    /** Goes through a program, slow or fast, on registers and cells of its own. */
    private static final class Runner {
        final int[] registers = new int[REGISTERS + MOST_FRESH];
        final int[] cells = new int[CELLS];
        final int[] begunOf = new int[BLOCKS];
        final int[] goneOf = new int[BLOCKS * WAYS];
        int outcome;
        int cycles;
        int begun;
        int wentFast;
        int wentOff;
        /** The block that would begin next; NONE: the run is over. */
        private int next;
        private int exitWay;
        /** The splits, as bits, behind which a guess has faulted. */
        private long faultsIfPassed;
        private final int[] results = new int[MOST_ITEMS];
        private final int[] addresses = new int[MOST_ITEMS];

        void goSlow(Program program, State state) {
            begin(program, state);
            for (int n = 0; n < MOST_BEGUN && next != NONE; n++) {
                goAlone(program, state);
            }
            endIfTooLong();
        }

        void goFast(Program program, State state, Plan plan) {
            begin(program, state);
            for (int n = 0; n < MOST_BEGUN && next != NONE && begun < MOST_BEGUN; n++) {
                Trace trace = plan.startedBy(next);
                if (trace != null && begun + trace.many <= MOST_BEGUN) {
                    goThrough(trace, program);
                } else {
                    int ahead = cycles;
                    goAlone(program, state);
                    cycles = outcome == FAULTS ? ahead : cycles;
                }
            }
            endIfTooLong();
        }

        boolean comesToWhat(Runner other) {
            boolean alike = outcome == other.outcome;
            for (int i = 0; i < REGISTERS && outcome == STOPS; i++) {
                alike = alike && registers[i] == other.registers[i];
            }
            for (int i = 0; i < CELLS && outcome == STOPS; i++) {
                alike = alike && cells[i] == other.cells[i];
            }
            return alike;
        }

        private void begin(Program program, State state) {
            Arrays.fill(registers, 0);
            for (int i = 0; i < REGISTERS; i++) {
                registers[i] = state.register(i);
            }
            for (int i = 0; i < CELLS; i++) {
                cells[i] = state.cellAt(i);
            }
            Arrays.fill(begunOf, 0);
            Arrays.fill(goneOf, 0);
            outcome = STOPS;
            cycles = 0;
            begun = 0;
            wentFast = 0;
            wentOff = 0;
            next = program.blocks > 0 ? 0 : NONE;
        }

        private void endIfTooLong() {
            if (next != NONE) {
                outcome = TOO_LONG;
            }
        }

        private void fault() {
            outcome = FAULTS;
            next = NONE;
        }

        private void goAlone(Program program, State state) {
            int here = next;
            begun++;
            begunOf[here]++;
            for (int i = 0; i < program.lineCounts[here]; i++) {
                Step line = program.lines[here * LINES + i];
                if (wouldFault(line)) {
                    fault();
                    return;
                }
                settle(line, resultOf(line), valueOf(line.left));
                cycles += state.latencyOf(line.kindOf());
            }
            cycles += state.latencyOf(JUMPS);
            leave(program, here, resultOf(program.ends[here]));
        }

        private void leave(Program program, int from, int way) {
            next = program.leadsTo(from, way);
            if (next < 0) {
                next = NONE;
            } else {
                goneOf[from * WAYS + way]++;
            }
        }

        private void goThrough(Trace trace, Program program) {
            wentFast++;
            faultsIfPassed = 0;
            int split = goCycles(trace);
            if (split != NONE && outcome != FAULTS) {
                wentOff++;
                doCopied(trace, split);
            }
            if (outcome == FAULTS) {
                begun++;
            } else if (split != NONE) {
                begun += blocksTo(trace, trace.items[split].block);
                next = trace.items[split].off;
            } else {
                begun += trace.many;
                cycles += trace.length;
                leave(program, trace.lastBlock(), exitWay);
            }
        }

        private static int blocksTo(Trace trace, int last) {
            int found = 0;
            for (int place = 0; place < trace.many; place++) {
                if (trace.blocks[place] == last) {
                    found = place + 1;
                }
            }
            return found;
        }

        /** The split that goes off, or NONE; the run may have faulted. */
        private int goCycles(Trace trace) {
            int from = 0;
            for (int cycle = 0; cycle < trace.length; cycle++) {
                int to = from;
                while (to < trace.size && trace.items[trace.order[to]].cycle == cycle) {
                    to++;
                }
                readAll(trace, from, to);
                if (outcome == FAULTS) {
                    return NONE;
                }
                for (int k = from; k < to; k++) {
                    settle(trace.items[trace.order[k]].step, results[k], addresses[k]);
                }
                int split = decide(trace, from, to);
                if (split != NONE || outcome == FAULTS) {
                    return split;
                }
                from = to;
            }
            return NONE;
        }

        private void readAll(Trace trace, int from, int to) {
            for (int k = from; k < to; k++) {
                Item item = trace.items[trace.order[k]];
                results[k] = resultOf(item.step);
                addresses[k] = valueOf(item.step.left);
                if (wouldFault(item.step)) {
                    if (item.guess) {
                        faultsIfPassed |= 1L << item.guard;
                    } else {
                        fault();
                    }
                }
            }
        }

        private int decide(Trace trace, int from, int to) {
            for (int k = from; k < to; k++) {
                Item item = trace.items[trace.order[k]];
                if (item.isSplit()) {
                    if (results[k] == item.offWay) {
                        return trace.order[k];
                    }
                    if ((faultsIfPassed >> trace.order[k] & 1L) == 1L) {
                        fault();
                    }
                } else if (item.sort == EXIT_SORT) {
                    exitWay = results[k];
                }
            }
            return NONE;
        }

        private void doCopied(Trace trace, int split) {
            int cycle = trace.items[split].cycle;
            int spent = cycle + 1;
            for (int i = 0; i < split; i++) {
                Item item = trace.items[i];
                if (item.cycle > cycle) {
                    if (wouldFault(item.step)) {
                        fault();
                        return;
                    }
                    settle(item.step, resultOf(item.step), valueOf(item.step.left));
                    spent += item.latency;
                }
            }
            cycles += spent;
        }

        private int valueOf(int value) {
            if (value >= 0) {
                return value;
            }
            return ~value < registers.length ? registers[~value] : 0;
        }

        private boolean wouldFault(Step step) {
            switch (step.op) {
                case DIVIDE:
                    return valueOf(step.right) == 0;
                case LOAD:
                case STORE:
                    return !isCell(valueOf(step.left));
                default:
                    return false;
            }
        }

        /** What a step sets, 0 where it faults; of an end the way that it goes. */
        private int resultOf(Step step) {
            int left = valueOf(step.left);
            int right = valueOf(step.right);
            switch (step.op) {
                case ADD:
                    return left + right;
                case SUBTRACT:
                    return left - right;
                case MULTIPLY:
                    return left * right;
                case DIVIDE:
                    return right == 0 ? 0 : left / right;
                case LOAD:
                    return isCell(left) ? cells[left] : 0;
                case STORE:
                    return right;
                case COPY:
                    return left;
                case IF:
                    return left < right ? 0 : 1;
                default:
                    return 0;
            }
        }

        private void settle(Step step, int result, int address) {
            if (step.op == STORE) {
                if (isCell(address)) {
                    cells[address] = result;
                }
            } else if (step.sets >= 0 && step.sets < registers.length) {
                registers[step.sets] = result;
            }
        }
    }
}
