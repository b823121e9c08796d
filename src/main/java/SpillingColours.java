import java.util.Arrays;

/**
 * Code over values that is given registers by colouring a graph, with copies joined, values kept in
 * slots where registers do not suffice, and a checker that looks at the outcome by itself.
 *
 * All rows are made with the object and used again: no call makes anything.
 */
public final class SpillingColours {
    public static final int NONE = -1;

    private static final int SOURCE_LINES = 16;
    private static final int SOURCE_VALUES = 10;
    private static final int MOST_LINES = 48;
    private static final int MOST_VALUES = 60;
    private static final int LEAST_REGISTERS = 3;
    private static final int MOST_REGISTERS = 6;
    /** Every spilled group takes at least one value of the source out of the code. */
    private static final int MOST_SLOTS = SOURCE_VALUES;

    private static final int SET = 0;
    private static final int MOVE = 1;
    private static final int ADD = 2;
    private static final int SUB = 3;
    private static final int LESS = 4;
    private static final int JUMP = 5;
    private static final int BRANCH = 6;
    private static final int OUT = 7;
    private static final int LOAD = 8;
    private static final int STORE = 9;

    /** The columns of a line, numbered as line() and spoil() number them. */
    private static final int OP = 0;
    private static final int D = 1;
    private static final int A = 2;
    private static final int B = 3;
    private static final int ORIGIN = 4;
    private static final int COLUMNS = 5;

    private final Code source = new Code();
    private final Code result = new Code();
    private final Liveness liveness = new Liveness();
    private final Allocator allocator = new Allocator();
    private final Checker checker = new Checker();
    private final Machine machine = new Machine();
    private boolean hasResult;

    public SpillingColours() {
        hasResult = false;
    }

    public int put(int op, int d, int a, int b) throws IllegalArgumentException, IllegalStateException {
        if (op < SET || op > OUT || !fits(op, D, d) || !fits(op, A, a) || !fits(op, B, b)) {
            throw new IllegalArgumentException();
        }
        if (source.size >= SOURCE_LINES) {
            throw new IllegalStateException();
        }
        source.add(op, meant(op, D, d), meant(op, A, a), meant(op, B, b), source.size);
        hasResult = false;
        return source.size;
    }

    public int clear() {
        int before = source.size;
        source.size = 0;
        hasResult = false;
        return before;
    }

    public boolean live(int line, int value) {
        if (line < 0 || line >= source.size || value < 0 || value >= SOURCE_VALUES) {
            return false;
        }
        liveness.find(source);
        return hasBit(liveness.behind[line], value);
    }

    public int allocate(int k) throws IllegalArgumentException {
        if (k < LEAST_REGISTERS || k > MOST_REGISTERS) {
            throw new IllegalArgumentException();
        }
        int rounds = allocator.countRounds(source, k);
        hasResult = rounds != NONE;
        if (hasResult) {
            allocator.writeTo(result);
        }
        return rounds;
    }

    public int lines() {
        return hasResult ? result.size : NONE;
    }

    public int line(int i, int what) throws IndexOutOfBoundsException {
        if (!hasResultLine(i) || what < OP || what >= COLUMNS) {
            throw new IndexOutOfBoundsException();
        }
        return result.at(i, what);
    }

    public int slots() {
        return hasResult ? allocator.slotCount() : NONE;
    }

    public int joined() {
        return hasResult ? allocator.joinCount() : NONE;
    }

    public boolean spoil(int i, int what, int register) {
        if (!hasResultLine(i) || register < 0 || register >= allocator.registers) {
            return false;
        }
        if (!holdsValue(result.at(i, OP), what)) {
            return false;
        }
        result.change(i, what, register);
        return true;
    }

    public boolean accepts() {
        return hasResult && checker.agrees(source, result, allocator.registers);
    }

    public int run(int code) throws IllegalArgumentException, IllegalStateException {
        if (code != 0 && code != 1) {
            throw new IllegalArgumentException();
        }
        if (code == 1 && !hasResult) {
            throw new IllegalStateException();
        }
        machine.execute(code == 0 ? source : result);
        return machine.outCount;
    }

    public int shown(int k) throws IndexOutOfBoundsException {
        if (k < 0 || k >= machine.keptCount()) {
            throw new IndexOutOfBoundsException();
        }
        return machine.out[k];
    }

    public boolean ended() {
        return machine.cameToEnd;
    }

    private boolean hasResultLine(int i) {
        return hasResult && i >= 0 && i < result.size;
    }

    /** Whether a number may be put into a column: those that mean nothing always may. */
    private static boolean fits(int op, int column, int number) {
        if (holdsValue(op, column)) {
            return number >= 0 && number < SOURCE_VALUES;
        }
        if (column == targetColumn(op)) {
            return number >= 0 && number <= SOURCE_LINES;
        }
        return true;
    }

    private static int meant(int op, int column, int number) {
        boolean hasMeaning = holdsValue(op, column) || column == targetColumn(op) || (op == SET && column == A);
        return hasMeaning ? number : 0;
    }

    /** Whether a value stands in that column, or a register once allocation is done. */
    private static boolean holdsValue(int op, int column) {
        switch (column) {
            case D:
                return op <= LESS || op == LOAD || op == STORE;
            case A:
                return (op >= MOVE && op <= LESS) || op == BRANCH || op == OUT;
            case B:
                return op >= ADD && op <= LESS;
            default:
                return false;
        }
    }

    private static boolean definesValue(int op) {
        return op <= LESS || op == LOAD;
    }

    /** The column in which the number of a line stands, NONE for the ops that do not jump. */
    private static int targetColumn(int op) {
        if (op == JUMP) {
            return A;
        }
        return op == BRANCH ? B : NONE;
    }

    private static long bit(int number) {
        return 1L << number;
    }

    private static boolean hasBit(long set, int number) {
        return ((set >> number) & 1L) != 0L;
    }

    /** Lines one behind the other, kept in one row so that a code is but two objects. */
    private static final class Code {
        private final int[] cells = new int[MOST_LINES * COLUMNS];
        int size;

        int at(int i, int column) {
            return cells[i * COLUMNS + column];
        }

        void change(int i, int column, int number) {
            cells[i * COLUMNS + column] = number;
        }

        void add(int op, int d, int a, int b, int origin) {
            int i = size;
            size = i + 1;
            change(i, OP, op);
            change(i, D, d);
            change(i, A, a);
            change(i, B, b);
            change(i, ORIGIN, origin);
        }

        void copyFrom(Code other) {
            System.arraycopy(other.cells, 0, cells, 0, cells.length);
            size = other.size;
        }

        /**
         * The line that follows when there is no jump. The end stands for "none" as well: nothing is
         * live there and nothing is checked there, so a way to it too many does no harm.
         */
        int wayOn(int i) {
            return at(i, OP) == JUMP ? size : i + 1;
        }

        /** The line that follows by a jump, with the end for "none" as above. */
        int wayAside(int i) {
            int column = targetColumn(at(i, OP));
            return column == NONE ? size : Math.min(at(i, column), size);
        }

        /** The value that a line defines as a set of at most one. */
        long defined(int i) {
            return definesValue(at(i, OP)) ? bit(at(i, D)) : 0L;
        }

        long used(int i) {
            int op = at(i, OP);
            long set = op == STORE ? bit(at(i, D)) : 0L;
            if (holdsValue(op, A)) {
                set |= bit(at(i, A));
            }
            if (holdsValue(op, B)) {
                set |= bit(at(i, B));
            }
            return set;
        }
    }

    /** Which values are live behind each line of a code, as sets of bits. */
    private static final class Liveness {
        final long[] behind = new long[MOST_LINES];
        private final long[] before = new long[MOST_LINES + 1];

        void find(Code code) {
            Arrays.fill(before, 0L);
            boolean changed = true;
            // A pass carries a use over at least one line, and a shortest way has each line but once.
            for (int pass = 0; pass <= MOST_LINES && changed; pass++) {
                changed = goBack(code);
            }
        }

        private boolean goBack(Code code) {
            boolean changed = false;
            for (int i = code.size - 1; i >= 0; i--) {
                behind[i] = before[code.wayOn(i)] | before[code.wayAside(i)];
                long set = code.used(i) | (behind[i] & ~code.defined(i));
                changed = changed || set != before[i];
                before[i] = set;
            }
            return changed;
        }
    }

    /** The groups of one round and which of them are neighbours; sets of groups are sets of their numbers. */
    private static final class Groups {
        final int[] groupOf = new int[MOST_VALUES];
        final int[] timesStanding = new int[MOST_VALUES];
        final long[] neighbours = new long[MOST_VALUES];
        long all;
        long withTemporary;
        int joinCount;

        void build(Code code, Liveness liveness) {
            Arrays.fill(groupOf, NONE);
            Arrays.fill(timesStanding, 0);
            Arrays.fill(neighbours, 0L);
            all = 0L;
            withTemporary = 0L;
            joinCount = 0;
            for (int i = 0; i < code.size; i++) {
                for (int column = D; column <= B; column++) {
                    if (holdsValue(code.at(i, OP), column)) {
                        addStanding(code.at(i, column));
                    }
                }
            }
            for (int i = 0; i < code.size; i++) {
                interfere(code, i, liveness.behind[i]);
            }
        }

        private void addStanding(int value) {
            groupOf[value] = value;
            timesStanding[value]++;
            all |= bit(value);
            if (value >= SOURCE_VALUES) {
                withTemporary |= bit(value);
            }
        }

        private void interfere(Code code, int i, long liveBehind) {
            int op = code.at(i, OP);
            if (!definesValue(op)) {
                return;
            }
            int d = code.at(i, D);
            long others = liveBehind & ~bit(d);
            if (op == MOVE) {
                others &= ~bit(code.at(i, A));
            }
            neighbours[d] |= others;
            for (int value = 0; value < MOST_VALUES; value++) {
                if (hasBit(others, value)) {
                    neighbours[value] |= bit(d);
                }
            }
        }

        void joinMoves(Code code, int k) {
            boolean found = true;
            // Each join makes the groups one fewer.
            for (int joins = 0; joins < MOST_VALUES && found; joins++) {
                found = joinFirstMove(code, k);
            }
        }

        private boolean joinFirstMove(Code code, int k) {
            for (int i = 0; i < code.size; i++) {
                if (code.at(i, OP) == MOVE) {
                    int one = groupOf[code.at(i, D)];
                    int other = groupOf[code.at(i, A)];
                    if (mayJoin(one, other, k)) {
                        join(Math.min(one, other), Math.max(one, other));
                        return true;
                    }
                }
            }
            return false;
        }

        private boolean mayJoin(int one, int other, int k) {
            if (one == other || hasBit(neighbours[one], other)) {
                return false;
            }
            long around = neighbours[one] | neighbours[other];
            int high = 0;
            for (int group = 0; group < MOST_VALUES; group++) {
                if (hasBit(around, group) && degreeIfJoined(group, one, other) >= k) {
                    high++;
                }
            }
            return high < k;
        }

        private int degreeIfJoined(int group, int one, int other) {
            int degree = Long.bitCount(neighbours[group]);
            boolean losesOne = hasBit(neighbours[group], one) && hasBit(neighbours[group], other);
            return losesOne ? degree - 1 : degree;
        }

        private void join(int least, int other) {
            for (int number = 0; number < MOST_VALUES; number++) {
                if (groupOf[number] == other) {
                    groupOf[number] = least;
                }
                if (hasBit(neighbours[other], number)) {
                    neighbours[number] = (neighbours[number] & ~bit(other)) | bit(least);
                }
            }
            neighbours[least] |= neighbours[other];
            neighbours[other] = 0L;
            timesStanding[least] += timesStanding[other];
            all &= ~bit(other);
            if (hasBit(withTemporary, other)) {
                withTemporary = (withTemporary & ~bit(other)) | bit(least);
            }
            joinCount++;
        }
    }

    /** Takes the groups off and gives them registers. */
    private static final class Colouring {
        final int[] registerOf = new int[MOST_VALUES];
        private final int[] order = new int[MOST_VALUES];
        private final int[] degreeLeft = new int[MOST_VALUES];
        private int taken;
        long spilled;

        void takeOff(Groups groups, int k) {
            long left = groups.all;
            taken = Long.bitCount(left);
            for (int i = 0; i < taken; i++) {
                int group = nextToTake(groups, left, k);
                order[i] = group;
                left &= ~bit(group);
            }
        }

        private int nextToTake(Groups groups, long left, int k) {
            for (int group = 0; group < MOST_VALUES; group++) {
                degreeLeft[group] = Long.bitCount(groups.neighbours[group] & left);
            }
            int least = leastBelow(left, k);
            if (least != NONE) {
                return least;
            }
            int light = lightest(groups, left & ~groups.withTemporary);
            return light != NONE ? light : leastBelow(left, MOST_VALUES);
        }

        /** The least group whose degree is below a bound, NONE if there is none. */
        private int leastBelow(long left, int bound) {
            for (int group = 0; group < MOST_VALUES; group++) {
                if (hasBit(left, group) && degreeLeft[group] < bound) {
                    return group;
                }
            }
            return NONE;
        }

        private int lightest(Groups groups, long choice) {
            int best = NONE;
            for (int group = 0; group < MOST_VALUES; group++) {
                if (hasBit(choice, group) && (best == NONE || isLighter(groups, group, best))) {
                    best = group;
                }
            }
            return best;
        }

        /** Weights are fractions: multiplied crosswise they are compared without being rounded. */
        private boolean isLighter(Groups groups, int group, int other) {
            return groups.timesStanding[group] * degreeLeft[other] < groups.timesStanding[other] * degreeLeft[group];
        }

        void give(Groups groups, int k) {
            Arrays.fill(registerOf, NONE);
            spilled = 0L;
            for (int i = taken - 1; i >= 0; i--) {
                int group = order[i];
                registerOf[group] = freeRegister(groups.neighbours[group], k);
                if (registerOf[group] == NONE) {
                    spilled |= bit(group);
                }
            }
        }

        private int freeRegister(long neighbours, int k) {
            long got = 0L;
            for (int group = 0; group < MOST_VALUES; group++) {
                if (hasBit(neighbours, group) && registerOf[group] != NONE) {
                    got |= bit(registerOf[group]);
                }
            }
            for (int register = 0; register < k; register++) {
                if (!hasBit(got, register)) {
                    return register;
                }
            }
            return NONE;
        }
    }

    /** Gives spilled groups their slots and makes the code that loads from them and stores to them. */
    private static final class Spiller {
        private final int[] slotOf = new int[MOST_VALUES];
        private final int[] starts = new int[MOST_LINES + 1];
        private int nextValue;
        int slotCount;

        void begin() {
            slotCount = 0;
            nextValue = SOURCE_VALUES;
        }

        void giveSlots(Groups groups, long spilled) {
            Arrays.fill(slotOf, NONE);
            for (int group = 0; group < MOST_VALUES; group++) {
                if (hasBit(spilled, group)) {
                    giveSlot(groups, group, slotCount);
                    slotCount++;
                }
            }
        }

        private void giveSlot(Groups groups, int group, int slot) {
            for (int value = 0; value < MOST_VALUES; value++) {
                if (groups.groupOf[value] == group) {
                    slotOf[value] = slot;
                }
            }
        }

        /** Every new line has a new temporary value, so one count tells the growth of both. */
        boolean hasRoom(Code code) {
            int growth = 0;
            for (int i = 0; i < code.size; i++) {
                growth += growthOf(code, i);
            }
            return code.size + growth <= MOST_LINES && nextValue + growth <= MOST_VALUES;
        }

        private int growthOf(Code code, int i) {
            int growth = 0;
            for (int column = D; column <= B; column++) {
                if (slotAt(code, i, column) != NONE) {
                    growth++;
                }
            }
            return usesSpilledTwice(code, i) ? growth - 1 : growth;
        }

        private int slotAt(Code code, int i, int column) {
            return holdsValue(code.at(i, OP), column) ? slotOf[code.at(i, column)] : NONE;
        }

        private boolean usesSpilledTwice(Code code, int i) {
            return slotAt(code, i, A) != NONE && slotAt(code, i, B) != NONE && code.at(i, A) == code.at(i, B);
        }

        void rewrite(Code code, Code next) {
            next.size = 0;
            for (int i = 0; i < code.size; i++) {
                starts[i] = next.size;
                rewriteLine(code, i, next);
            }
            starts[code.size] = next.size;
            for (int i = 0; i < next.size; i++) {
                int column = targetColumn(next.at(i, OP));
                if (column != NONE) {
                    next.change(i, column, starts[Math.min(next.at(i, column), code.size)]);
                }
            }
        }

        private void rewriteLine(Code code, int i, Code next) {
            int a = loaded(code, i, A, next);
            int b = usesSpilledTwice(code, i) ? a : loaded(code, i, B, next);
            int slot = slotAt(code, i, D);
            int d = slot == NONE ? code.at(i, D) : newTemporary();
            next.add(code.at(i, OP), d, a, b, code.at(i, ORIGIN));
            if (slot != NONE) {
                next.add(STORE, d, slot, 0, NONE);
            }
        }

        /** What is to stand in the column, after a load in front where its value is spilled. */
        private int loaded(Code code, int i, int column, Code next) {
            int slot = slotAt(code, i, column);
            if (slot == NONE) {
                return code.at(i, column);
            }
            int temporary = newTemporary();
            next.add(LOAD, temporary, slot, 0, NONE);
            return temporary;
        }

        private int newTemporary() {
            int temporary = nextValue;
            nextValue = temporary + 1;
            return temporary;
        }
    }

    /** The rounds of an allocation. */
    private static final class Allocator {
        private final Liveness liveness = new Liveness();
        private final Groups groups = new Groups();
        private final Colouring colouring = new Colouring();
        private final Spiller spiller = new Spiller();
        private final Code code = new Code();
        private final Code next = new Code();
        int registers;

        int countRounds(Code source, int k) {
            registers = k;
            code.copyFrom(source);
            spiller.begin();
            // A round that is not the last takes at least one value of the source out of the code.
            for (int round = 1; round <= SOURCE_VALUES + 1; round++) {
                liveness.find(code);
                groups.build(code, liveness);
                groups.joinMoves(code, k);
                colouring.takeOff(groups, k);
                colouring.give(groups, k);
                if (colouring.spilled == 0L) {
                    return round;
                }
                if ((colouring.spilled & groups.withTemporary) != 0L) {
                    return NONE;
                }
                spiller.giveSlots(groups, colouring.spilled);
                if (!spiller.hasRoom(code)) {
                    return NONE;
                }
                spiller.rewrite(code, next);
                code.copyFrom(next);
            }
            return NONE;
        }

        void writeTo(Code result) {
            result.copyFrom(code);
            for (int i = 0; i < code.size; i++) {
                for (int column = D; column <= B; column++) {
                    if (holdsValue(code.at(i, OP), column)) {
                        int group = groups.groupOf[code.at(i, column)];
                        result.change(i, column, colouring.registerOf[group]);
                    }
                }
            }
        }

        int slotCount() {
            return spiller.slotCount;
        }

        int joinCount() {
            return groups.joinCount;
        }
    }

    /** Looks at a result by itself: which values of the source are in which register or slot. */
    private static final class Checker {
        private static final int PLACES = MOST_REGISTERS + MOST_SLOTS;
        private static final int EVERY_VALUE = (1 << SOURCE_VALUES) - 1;
        /** Every pass but the last comes to a new line or takes a value out of a set. */
        private static final int MOST_PASSES = (MOST_LINES + 1) * (1 + PLACES * SOURCE_VALUES) + 1;

        private final int[] sets = new int[(MOST_LINES + 1) * PLACES];
        private final boolean[] reached = new boolean[MOST_LINES + 1];
        private final int[] now = new int[PLACES];

        boolean agrees(Code source, Code result, int registers) {
            Arrays.fill(sets, EVERY_VALUE);
            for (int i = 0; i <= MOST_LINES; i++) {
                reached[i] = i == 0;
            }
            boolean changed = true;
            for (int pass = 0; pass < MOST_PASSES && changed; pass++) {
                changed = goOn(source, result, registers);
            }
            return everyUseHolds(source, result);
        }

        private boolean goOn(Code source, Code result, int registers) {
            boolean changed = false;
            for (int i = 0; i < result.size; i++) {
                if (reached[i]) {
                    System.arraycopy(sets, i * PLACES, now, 0, PLACES);
                    changeSets(source, result, i, registers);
                    boolean changedOn = arrive(result.wayOn(i));
                    boolean changedAside = arrive(result.wayAside(i));
                    changed = changed || changedOn || changedAside;
                }
            }
            return changed;
        }

        private void changeSets(Code source, Code result, int i, int registers) {
            int op = result.at(i, OP);
            int d = result.at(i, D);
            int a = result.at(i, A);
            if (op == LOAD) {
                now[d] = now[registers + a];
            } else if (op == STORE) {
                now[registers + a] = now[d];
            } else if (definesValue(op)) {
                int value = 1 << source.at(result.at(i, ORIGIN), D);
                for (int place = 0; place < PLACES; place++) {
                    now[place] &= ~value;
                }
                now[d] = op == MOVE ? now[a] | value : value;
            }
        }

        /** Sets begin with every value in them, so the first arrival is met like all others. */
        private boolean arrive(int line) {
            boolean changed = !reached[line];
            reached[line] = true;
            for (int place = 0; place < PLACES; place++) {
                int before = sets[line * PLACES + place];
                int both = before & now[place];
                sets[line * PLACES + place] = both;
                changed = changed || both != before;
            }
            return changed;
        }

        private boolean everyUseHolds(Code source, Code result) {
            for (int i = 0; i < result.size; i++) {
                if (reached[i] && result.at(i, ORIGIN) != NONE) {
                    if (!useHolds(source, result, i, A) || !useHolds(source, result, i, B)) {
                        return false;
                    }
                }
            }
            return true;
        }

        private boolean useHolds(Code source, Code result, int i, int column) {
            if (!holdsValue(result.at(i, OP), column)) {
                return true;
            }
            int set = sets[i * PLACES + result.at(i, column)];
            return hasBit(set, source.at(result.at(i, ORIGIN), column));
        }
    }

    /** Runs a code and keeps what the latest run put out. */
    private static final class Machine {
        private static final int MOST_COUNTED = 200;
        private static final int MOST_KEPT = 20;
        /** In front of and behind every counted line there are fewer loads and stores than lines. */
        private static final int MOST_STEPS = (MOST_COUNTED + 1) * (MOST_LINES + 1);

        /** Values of the source, or registers, of which there are fewer. */
        private final int[] numbers = new int[SOURCE_VALUES];
        private final int[] inSlots = new int[MOST_SLOTS];
        final int[] out = new int[MOST_KEPT];
        int outCount;
        boolean cameToEnd;

        int keptCount() {
            return Math.min(outCount, MOST_KEPT);
        }

        void execute(Code code) {
            Arrays.fill(numbers, 0);
            Arrays.fill(inSlots, 0);
            outCount = 0;
            int i = 0;
            int counted = 0;
            for (int step = 0; step < MOST_STEPS && i < code.size; step++) {
                if (code.at(i, OP) < LOAD) {
                    if (counted == MOST_COUNTED) {
                        break;
                    }
                    counted++;
                }
                work(code, i);
                i = following(code, i);
            }
            cameToEnd = i >= code.size;
        }

        private int following(Code code, int i) {
            boolean jumps = code.at(i, OP) == JUMP
                || (code.at(i, OP) == BRANCH && numbers[code.at(i, A)] != 0);
            return jumps ? code.wayAside(i) : code.wayOn(i);
        }

        private void work(Code code, int i) {
            int d = code.at(i, D);
            int a = code.at(i, A);
            int b = code.at(i, B);
            switch (code.at(i, OP)) {
                case SET:
                    numbers[d] = a;
                    break;
                case MOVE:
                    numbers[d] = numbers[a];
                    break;
                case ADD:
                    numbers[d] = numbers[a] + numbers[b];
                    break;
                case SUB:
                    numbers[d] = numbers[a] - numbers[b];
                    break;
                case LESS:
                    numbers[d] = numbers[a] < numbers[b] ? 1 : 0;
                    break;
                case OUT:
                    putOut(numbers[a]);
                    break;
                case LOAD:
                    numbers[d] = inSlots[a];
                    break;
                case STORE:
                    inSlots[a] = numbers[d];
                    break;
                default:
                    break;
            }
        }

        private void putOut(int number) {
            if (outCount < MOST_KEPT) {
                out[outCount] = number;
            }
            outCount++;
        }
    }
}
