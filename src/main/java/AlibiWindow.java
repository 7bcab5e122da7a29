/** A machine that carries out a program in a window, out of order, as ../shared/DOC.md promises. */
public final class AlibiWindow {
    public static final int NONE = -1;

    private static final int SET = 0;
    private static final int ADD = 1;
    private static final int MUL = 2;
    private static final int LOAD = 3;
    private static final int STORE = 4;

    private static final int WAITING = 0;
    private static final int WORKING = 1;
    private static final int DONE = 2;

    private static final int WINDOW = 0;
    private static final int WIDTH = 1;
    private static final int RETIRING = 2;

    private static final int PROGRAM_LIMIT = 24;
    private static final int REGISTERS = 8;
    private static final int CELLS = 16;
    private static final int SETTINGS = 3;
    private static final int WIDEST_WINDOW = 8;
    private static final int BUFFER_LIMIT = 120;
    private static final int SAVED_LIMIT = 6;
    private static final int RUN_LIMIT = 100;
    private static final int CYCLE_LIMIT = 10000;
    private static final int FRESH_DISTRUST = 3;

    // The first entry of a window is never replayed, so every program ends long before this.
    private static final int FAR_CYCLE = 1000000;

    private static final int INSTRUCTION_PARTS = 7;
    private static final int ENTRY_PROPERTIES = 9;
    private static final int REGISTER_FACTS = 3;
    private static final int CELL_FACTS = 2;
    private static final int NUMBERS = 12;
    private static final int FORECASTS = 3;
    private static final int DIGEST_START = 2371;
    private static final int DIGEST_CYCLES = 10;

    // All machines are made here once: calls copy into them instead of making more.
    private final Machine now;
    private final Machine rehearsal;
    private final Machine[] saved;
    private final Text buffer;
    private final int[] best;
    private int savedStates;

    public AlibiWindow() {
        now = new Machine();
        rehearsal = new Machine();
        saved = new Machine[SAVED_LIMIT];
        for (int i = 0; i < saved.length; i++) {
            saved[i] = new Machine();
        }
        buffer = new Text();
        best = new int[FORECASTS];
    }

    // ---- settings and values

    public int set(int setting, int value) throws IndexOutOfBoundsException, IllegalArgumentException {
        checkPlace(setting, SETTINGS);
        if (value < 1 || value > Machine.greatest(setting)) {
            throw new IllegalArgumentException("value is out of range");
        }
        saveState();
        int previous = now.settings[setting];
        now.settings[setting] = value;
        return previous;
    }

    public int putRegister(int register, int bits)
            throws IndexOutOfBoundsException, IllegalArgumentException, IllegalStateException {
        return putValue(now.registers, register, bits);
    }

    public int putCell(int cell, int bits)
            throws IndexOutOfBoundsException, IllegalArgumentException, IllegalStateException {
        return putValue(now.memory, cell, bits);
    }

    private int putValue(int[] values, int place, int bits) {
        checkPlace(place, values.length);
        if (!Floats.isInRange(bits)) {
            throw new IllegalArgumentException("not the bits of a float in the range");
        }
        if (now.entries() > 0) {
            throw new IllegalStateException("the window has entries");
        }
        saveState();
        int previous = values[place];
        values[place] = bits;
        return previous;
    }

    // ---- cycles

    public int run(int cycles) throws IllegalArgumentException, IllegalStateException {
        checkCycles(cycles);
        if (now.cycle + cycles > CYCLE_LIMIT) {
            throw new IllegalStateException("the number of the cycle would be too great");
        }
        saveState();
        int before = now.retiredEver;
        now.passCycles(cycles);
        return now.retiredEver - before;
    }

    private void checkCycles(int cycles) {
        if (cycles < 1 || cycles > RUN_LIMIT) {
            throw new IllegalArgumentException("cycles is out of range");
        }
    }

    public int flush() {
        saveState();
        int entries = now.entries();
        now.issued = now.retired;
        return entries;
    }

    public int again() {
        saveState();
        int retired = now.retired;
        now.beginAnew();
        return retired;
    }

    // ---- texts

    public int append(int code) throws IllegalArgumentException, IllegalStateException {
        if (code < 33 || code > 126) {
            throw new IllegalArgumentException("no such character");
        }
        if (buffer.length >= BUFFER_LIMIT) {
            throw new IllegalStateException("the buffer is full");
        }
        buffer.add((char) code);
        return buffer.length;
    }

    public int clearBuffer() {
        int length = buffer.length;
        buffer.length = 0;
        return length;
    }

    public int firstError() {
        return buffer.rightSigns();
    }

    public int load() throws IllegalArgumentException, IllegalStateException {
        if (!buffer.isComplete()) {
            throw new IllegalArgumentException("the buffer is not a complete program");
        }
        int length = buffer.instructions();
        if (length > PROGRAM_LIMIT) {
            throw new IllegalStateException("the program is too long");
        }
        saveState();
        now.length = length;
        int start = 0;
        for (int number = 0; number < length; number++) {
            buffer.readInstruction(start, now.at(number));
            start = buffer.nextInstruction(start);
        }
        now.beginAnew();
        buffer.length = 0;
        return length;
    }

    public int undo() throws IllegalStateException {
        if (savedStates < 1 || savedStates > saved.length) {
            throw new IllegalStateException("there is no saved state");
        }
        savedStates--;
        now.becomeLike(saved[savedStates]);
        return savedStates;
    }

    private void saveState() {
        if (savedStates >= saved.length) {
            Machine oldest = saved[0];
            for (int i = 1; i < saved.length; i++) {
                saved[i - 1] = saved[i];
            }
            savedStates = saved.length - 1;
            saved[savedStates] = oldest;
        }
        saved[savedStates].becomeLike(now);
        savedStates++;
    }

    // ---- what there is

    public int instruction(int instruction, int what) throws IndexOutOfBoundsException, IllegalArgumentException {
        checkPlace(instruction, now.length);
        checkWhat(what, INSTRUCTION_PARTS);
        return now.at(instruction).part(what);
    }

    public int entry(int entry, int what) throws IndexOutOfBoundsException, IllegalArgumentException {
        checkPlace(entry, now.entries());
        checkWhat(what, ENTRY_PROPERTIES);
        return now.property(now.retired + entry, what);
    }

    public int whyNot(int entry) throws IndexOutOfBoundsException {
        checkPlace(entry, now.entries());
        return now.hindrance(now.retired + entry);
    }

    public int register(int register, int what) throws IndexOutOfBoundsException, IllegalArgumentException {
        checkPlace(register, REGISTERS);
        checkWhat(what, REGISTER_FACTS);
        if (what == 2) {
            rehearsePlainOrder();
        }
        return registerFact(register, what);
    }

    public int cell(int cell, int what) throws IndexOutOfBoundsException, IllegalArgumentException {
        checkPlace(cell, CELLS);
        checkWhat(what, CELL_FACTS);
        if (what == 1) {
            rehearsePlainOrder();
        }
        return cellFact(cell, what);
    }

    public int count(int what) throws IllegalArgumentException {
        checkWhat(what, NUMBERS);
        return what == 11 ? savedStates : now.number(what);
    }

    public int setting(int setting) throws IndexOutOfBoundsException {
        checkPlace(setting, SETTINGS);
        return now.settings[setting];
    }

    private void checkPlace(int place, int bound) {
        if (place < 0 || place >= bound) {
            throw new IndexOutOfBoundsException("there is no such place");
        }
    }

    private void checkWhat(int what, int bound) {
        if (what < 0 || what >= bound) {
            throw new IllegalArgumentException("there is nothing of this number to tell");
        }
    }

    private int registerFact(int register, int what) {
        switch (what) {
            case 0: return now.registerBits(register);
            case 1: return now.latestMaker(register, now.issued);
            default: return rehearsal.registerBits(register);
        }
    }

    private int cellFact(int cell, int what) {
        return what == 0 ? now.cellBits(cell) : rehearsal.cellBits(cell);
    }

    // ---- what would be

    public int ifRun(int cycles, int what) throws IllegalArgumentException {
        checkCycles(cycles);
        checkWhat(what, FORECASTS);
        rehearseCycles(cycles);
        return rehearsed(what);
    }

    public int cyclesLeft() {
        rehearsal.becomeLike(now);
        return rehearsal.cyclesToEnd(FAR_CYCLE);
    }

    public int bestWindow(int what) throws IllegalArgumentException {
        checkWhat(what, FORECASTS);
        rehearseWindows();
        return best[what];
    }

    public int worstLoad() {
        int worst = NONE;
        int most = 0;
        for (int number = 0; number < now.length; number++) {
            int replays = now.at(number).replays;
            if (replays > most) {
                most = replays;
                worst = number;
            }
        }
        return worst;
    }

    public double earlyShare() {
        return now.loadsMade > 0 ? (double) now.earlyLoads / now.loadsMade : 0.0;
    }

    public long digest() {
        long hash = hashNumbers(DIGEST_START);
        hash = hashProgram(hash);
        rehearsePlainOrder();
        hash = hashValues(hash);
        rehearseCycles(DIGEST_CYCLES);
        for (int what = 0; what < FORECASTS; what++) {
            hash = 31 * hash + rehearsed(what);
        }
        hash = 31 * hash + cyclesLeft();
        rehearseWindows();
        for (int what = 0; what < best.length; what++) {
            hash = 31 * hash + best[what];
        }
        hash = 31 * hash + worstLoad();
        hash = 31 * hash + Floats.bitsOfShare(earlyShare());
        return buffer.hashAll(hash);
    }

    private long hashNumbers(long start) {
        long hash = start;
        for (int what = 0; what < NUMBERS; what++) {
            hash = 31 * hash + count(what);
        }
        for (int i = 0; i < SETTINGS; i++) {
            hash = 31 * hash + setting(i);
        }
        return hash;
    }

    private long hashProgram(long start) {
        long hash = start;
        for (int number = 0; number < now.length; number++) {
            for (int what = 0; what < INSTRUCTION_PARTS; what++) {
                hash = 31 * hash + now.at(number).part(what);
            }
        }
        for (int number = now.retired; number < now.issued; number++) {
            for (int what = 0; what < ENTRY_PROPERTIES; what++) {
                hash = 31 * hash + now.property(number, what);
            }
        }
        return hash;
    }

    private long hashValues(long start) {
        long hash = start;
        for (int i = 0; i < REGISTERS; i++) {
            for (int what = 0; what < REGISTER_FACTS; what++) {
                hash = 31 * hash + registerFact(i, what);
            }
        }
        for (int i = 0; i < CELLS; i++) {
            for (int what = 0; what < CELL_FACTS; what++) {
                hash = 31 * hash + cellFact(i, what);
            }
        }
        return hash;
    }

    private void rehearsePlainOrder() {
        rehearsal.becomeLike(now);
        rehearsal.carryOutPlainly();
    }

    private void rehearseCycles(int cycles) {
        rehearsal.becomeLike(now);
        rehearsal.passCycles(cycles);
    }

    private int rehearsed(int what) {
        switch (what) {
            case 0: return rehearsal.retiredEver - now.retiredEver;
            case 1: return rehearsal.replays - now.replays;
            default: return rehearsal.entries();
        }
    }

    private void rehearseWindows() {
        int fewest = FAR_CYCLE;
        for (int window = 1; window <= WIDEST_WINDOW; window++) {
            rehearsal.becomeLike(now);
            rehearsal.beginAnew();
            rehearsal.settings[WINDOW] = window;
            int cycles = rehearsal.cyclesToEnd(fewest);
            if (cycles < fewest) {
                fewest = cycles;
                best[0] = window;
                best[1] = cycles;
                best[2] = rehearsal.replays - now.replays;
            }
        }
    }

    /** An instruction of the program, with what its entry holds from its issuing on. */
    private static final class Instruction {
        int kind;
        int r = NONE;
        int p = NONE;
        int q = NONE;
        int number;
        int distrust;
        int replays;
        int stage;
        int workLeft;
        int nameOfP = NONE;
        int nameOfQ = NONE;
        int place;
        int alibi = NONE;
        int made;

        void become(int newKind, int newR, int newP, int newQ, int newNumber) {
            kind = newKind;
            r = newR;
            p = newP;
            q = newQ;
            number = newNumber;
        }

        void becomeLike(Instruction other) {
            become(other.kind, other.r, other.p, other.q, other.number);
            distrust = other.distrust;
            replays = other.replays;
            stage = other.stage;
            workLeft = other.workLeft;
            nameOfP = other.nameOfP;
            nameOfQ = other.nameOfQ;
            place = other.place;
            alibi = other.alibi;
            made = other.made;
        }

        boolean isDone(int wanted) {
            return kind == wanted && stage == DONE;
        }

        boolean endsItsWork() {
            if (stage != WORKING) {
                return false;
            }
            workLeft--;
            return workLeft <= 0;
        }

        int cyclesNeeded() {
            switch (kind) {
                case MUL: return 3;
                case LOAD: return 2;
                default: return 1;
            }
        }

        int part(int what) {
            switch (what) {
                case 0: return kind;
                case 1: return r;
                case 2: return p;
                case 3: return q;
                case 4: return number;
                case 5: return distrust;
                default: return replays;
            }
        }
    }

    /** All that undo restores: the program, its window, the values, the settings and what is counted. */
    private static final class Machine {
        final Instruction[] rows = new Instruction[PROGRAM_LIMIT];
        // Stands in for every number that no instruction has.
        final Instruction nothing = new Instruction();
        final int[] registers = new int[REGISTERS];
        final int[] memory = new int[CELLS];
        final int[] settings = new int[SETTINGS];
        int cycle;
        int length;
        int issued;
        int retired;
        int replays;
        int madeWaiting;
        int retiredEver;
        int loadsMade;
        int earlyLoads;

        Machine() {
            for (int i = 0; i < rows.length; i++) {
                rows[i] = new Instruction();
            }
            settings[WINDOW] = 4;
            settings[WIDTH] = 2;
            settings[RETIRING] = 2;
        }

        static int greatest(int setting) {
            return setting == WINDOW ? WIDEST_WINDOW : 4;
        }

        void becomeLike(Machine other) {
            for (int i = 0; i < other.length; i++) {
                at(i).becomeLike(other.at(i));
            }
            System.arraycopy(other.registers, 0, registers, 0, REGISTERS);
            System.arraycopy(other.memory, 0, memory, 0, CELLS);
            System.arraycopy(other.settings, 0, settings, 0, SETTINGS);
            cycle = other.cycle;
            length = other.length;
            issued = other.issued;
            retired = other.retired;
            replays = other.replays;
            madeWaiting = other.madeWaiting;
            retiredEver = other.retiredEver;
            loadsMade = other.loadsMade;
            earlyLoads = other.earlyLoads;
        }

        void beginAnew() {
            issued = 0;
            retired = 0;
            for (int i = 0; i < length; i++) {
                Instruction row = at(i);
                row.distrust = 0;
                row.replays = 0;
            }
        }

        Instruction at(int number) {
            return number >= 0 && number < rows.length ? rows[number] : nothing;
        }

        int registerBits(int register) {
            return register >= 0 && register < registers.length ? registers[register] : 0;
        }

        int cellBits(int place) {
            return place >= 0 && place < memory.length ? memory[place] : 0;
        }

        void put(Instruction row) {
            if (row.kind == STORE) {
                if (row.place >= 0 && row.place < memory.length) {
                    memory[row.place] = row.made;
                }
            } else if (row.r >= 0 && row.r < registers.length) {
                registers[row.r] = row.made;
            }
        }

        int entries() {
            return issued - retired;
        }

        boolean isFinished() {
            return retired >= length;
        }

        int number(int what) {
            switch (what) {
                case 0: return cycle;
                case 1: return length;
                case 2: return entries();
                case 3: return issued;
                case 4: return retired;
                case 5: return replays;
                case 6: return madeWaiting;
                case 7: return retiredEver;
                case 8: return loadsMade;
                case 9: return earlyLoads;
                default: return isFinished() ? 1 : 0;
            }
        }

        int property(int number, int what) {
            Instruction row = at(number);
            boolean done = row.stage == DONE;
            switch (what) {
                case 0: return number;
                case 1: return row.stage;
                case 2: return row.stage == WORKING ? row.workLeft : 0;
                case 3: return row.nameOfP < retired ? NONE : row.nameOfP;
                case 4: return row.nameOfQ < retired ? NONE : row.nameOfQ;
                case 5: return row.isDone(LOAD) || row.isDone(STORE) ? row.place : NONE;
                case 6: return row.isDone(LOAD) ? row.alibi : NONE;
                case 7: return done ? row.made : 0;
                default: return hindrance(number);
            }
        }

        /** The number that whyNot tells of an entry. */
        int hindrance(int number) {
            Instruction row = at(number);
            if (row.stage != WAITING) {
                return 1;
            }
            if (!isReady(row.nameOfP)) {
                return 2;
            }
            if (!isReady(row.nameOfQ)) {
                return 3;
            }
            return row.kind == LOAD && row.distrust > 0 && hasOpenStoreAhead(number) ? 4 : 0;
        }

        boolean isReady(int name) {
            return name < retired || at(name).stage == DONE;
        }

        boolean hasOpenStoreAhead(int number) {
            for (int i = retired; i < number; i++) {
                Instruction row = at(i);
                if (row.kind == STORE && row.stage != DONE) {
                    return true;
                }
            }
            return false;
        }

        /** The latest instruction of the window ahead of a number that makes a register. */
        int latestMaker(int register, int number) {
            for (int i = number - 1; i >= retired && register != NONE; i--) {
                if (at(i).r == register) {
                    return i;
                }
            }
            return NONE;
        }

        /** The latest STORE of the window ahead of a number that is done with a cell. */
        int latestStore(int place, int number) {
            for (int i = number - 1; i >= retired; i--) {
                Instruction row = at(i);
                if (row.isDone(STORE) && row.place == place) {
                    return i;
                }
            }
            return NONE;
        }

        void passCycles(int cycles) {
            for (int i = 0; i < cycles; i++) {
                passCycle();
            }
        }

        int cyclesToEnd(int bound) {
            int cycles = 0;
            while (cycles < bound && !isFinished()) {
                passCycle();
                cycles++;
            }
            return cycles;
        }

        void passCycle() {
            retireEntries();
            for (int i = retired; i < issued; i++) {
                if (at(i).endsItsWork()) {
                    finish(i, at(i));
                }
            }
            startEntries();
            issueInstructions();
            cycle++;
        }

        void retireEntries() {
            for (int left = settings[RETIRING]; left > 0 && retired < issued; left--) {
                Instruction row = at(retired);
                if (row.stage != DONE) {
                    return;
                }
                put(row);
                if (row.kind == LOAD && row.distrust > 0) {
                    row.distrust--;
                }
                retired++;
                retiredEver++;
            }
        }

        void finish(int number, Instruction row) {
            int p = operand(row.p, row.nameOfP);
            int q = operand(row.q, row.nameOfQ);
            row.stage = DONE;
            if (row.kind == LOAD) {
                finishLoad(number, row, p);
            } else if (row.kind == STORE) {
                row.place = placeOf(p, row.number);
                row.made = q;
                breakAlibis(number, row.place);
            } else {
                row.made = Floats.result(row.kind, p, q, row.number);
            }
        }

        // A register that had no maker in the window stays as it is until the entry that reads it is retired.
        int operand(int register, int name) {
            return name == NONE ? registerBits(register) : at(name).made;
        }

        void finishLoad(int number, Instruction row, int p) {
            row.place = placeOf(p, row.number);
            row.alibi = latestStore(row.place, number);
            row.made = row.alibi == NONE ? cellBits(row.place) : at(row.alibi).made;
            loadsMade++;
            if (hasOpenStoreAhead(number)) {
                earlyLoads++;
            }
        }

        void breakAlibis(int store, int place) {
            for (int i = store + 1; i < issued; i++) {
                Instruction row = at(i);
                // NONE is less than every number, too.
                if (row.isDone(LOAD) && row.place == place && row.alibi < store) {
                    replay(i, row);
                    return;
                }
            }
        }

        void replay(int first, Instruction load) {
            load.distrust = FRESH_DISTRUST;
            load.replays++;
            replays++;
            madeWaiting += issued - first;
            for (int i = first; i < issued; i++) {
                at(i).stage = WAITING;
            }
        }

        void startEntries() {
            int left = settings[WIDTH];
            for (int i = retired; i < issued && left > 0; i++) {
                if (hindrance(i) == 0) {
                    Instruction row = at(i);
                    row.stage = WORKING;
                    row.workLeft = row.cyclesNeeded();
                    left--;
                }
            }
        }

        void issueInstructions() {
            int left = settings[WIDTH];
            while (left > 0 && entries() < settings[WINDOW] && issued < length) {
                Instruction row = at(issued);
                row.stage = WAITING;
                row.nameOfP = latestMaker(row.p, issued);
                row.nameOfQ = latestMaker(row.q, issued);
                issued++;
                left--;
            }
        }

        void carryOutPlainly() {
            for (int i = retired; i < length; i++) {
                Instruction row = at(i);
                int p = registerBits(row.p);
                int q = registerBits(row.q);
                if (row.kind == STORE) {
                    row.place = placeOf(p, row.number);
                    row.made = q;
                } else if (row.kind == LOAD) {
                    row.made = cellBits(placeOf(p, row.number));
                } else {
                    row.made = Floats.result(row.kind, p, q, row.number);
                }
                put(row);
            }
        }

        static int placeOf(int p, int offset) {
            return Math.floorMod((int) Floats.valueOf(p) + offset, CELLS);
        }
    }

    /** The bits of floats and doubles, made by arithmetic as the language leaves no function for them. */
    private static final class Floats {
        private static final int SIGN = 0x80000000;
        private static final int FRACTION = 0x7FFFFF;
        private static final int LEADING_ONE = 0x800000;
        private static final int MILLION_BITS = 0x49742400;
        // A float is its significand, a whole number, halved (EXPONENT_OF_ONES - exponent) times.
        private static final int EXPONENT_OF_ONES = 150;
        private static final int MOST_HALVINGS = 149;
        private static final int HALVINGS_AT_ONCE = 30;
        private static final long DOUBLE_FRACTION = 0xFFFFFFFFFFFFFL;
        private static final long DOUBLE_LEADING_ONE = 0x10000000000000L;
        private static final int DOUBLE_EXPONENT_OF_ONES = 1075;
        private static final int DOUBLE_MOST_HALVINGS = 1074;

        // The bits of floats from 0 on are in the order of the floats; infinity and NaN stand above them all.
        static boolean isInRange(int bits) {
            return (bits & ~SIGN) <= MILLION_BITS;
        }

        static float valueOf(int bits) {
            int exponent = (bits & ~SIGN) >>> 23;
            int fraction = bits & FRACTION;
            double size = exponent == 0 ? fraction : fraction + LEADING_ONE;
            int halvings = EXPONENT_OF_ONES - (exponent == 0 ? 1 : exponent);
            for (int left = halvings; left > 0; left -= HALVINGS_AT_ONCE) {
                size = size / (1 << (left < HALVINGS_AT_ONCE ? left : HALVINGS_AT_ONCE));
            }
            float value = (float) size;
            return bits < 0 ? -value : value;
        }

        // Comparisons cannot tell -0.0f from 0.0f, so the caller says which zero it would be.
        static int bitsOf(float value, int zero) {
            if (value == 0.0f) {
                return zero;
            }
            int sign = value < 0.0f ? SIGN : 0;
            double size = value < 0.0f ? -value : value;
            int halvings = 0;
            while (halvings < MOST_HALVINGS - 16 && size < 256.0) {
                size = size * 65536.0;
                halvings += 16;
            }
            while (halvings < MOST_HALVINGS && size < LEADING_ONE) {
                size = size * 2.0;
                halvings++;
            }
            int significand = (int) size;
            if (significand < LEADING_ONE) {
                return sign | significand;
            }
            return sign | (EXPONENT_OF_ONES - halvings) << 23 | significand & FRACTION;
        }

        /** The bits of what an ADD, MUL or SET makes. */
        static int result(int kind, int p, int q, int number) {
            switch (kind) {
                case ADD: return bitsOf(limited(valueOf(p) + valueOf(q)), p & q & SIGN);
                case MUL: return bitsOf(limited(valueOf(p) * valueOf(q)), (p ^ q) & SIGN);
                default: return bitsOf(number / 4.0f, 0);
            }
        }

        static float limited(float value) {
            if (value > 1000000.0f) {
                return 1000000.0f;
            }
            return value < -1000000.0f ? -1000000.0f : value;
        }

        /** The bits of a double from 0.0 to 1.0. */
        static long bitsOfShare(double share) {
            if (share <= 0.0) {
                return 0;
            }
            double size = share;
            int halvings = 0;
            while (halvings < DOUBLE_MOST_HALVINGS && size < DOUBLE_LEADING_ONE) {
                size = size * 2.0;
                halvings++;
            }
            return (long) (DOUBLE_EXPONENT_OF_ONES - halvings) << 52 | (long) size & DOUBLE_FRACTION;
        }
    }

    /** The buffer, read as a program by the place that each character leads to. */
    private static final class Text {
        private static final int WRONG = 0;
        private static final int BEGIN = 1;
        private static final int TARGET = 2;
        private static final int RIGHT_SIDE = 3;
        private static final int MINUS = 4;
        private static final int FIRST_DIGIT = 5;
        private static final int END = 6;
        private static final int FIRST_OPERAND = 7;
        private static final int LAST_LETTER = 8;
        private static final int LOAD_OPENED = 9;
        private static final int LOAD_REGISTER = 10;
        private static final int LOAD_OFFSET = 11;
        private static final int STORE_OPENED = 12;
        private static final int STORE_REGISTER = 13;
        private static final int STORE_OFFSET = 14;
        private static final int STORE_CLOSED = 15;

        final char[] signs = new char[BUFFER_LIMIT];
        int length;

        void add(char sign) {
            if (length >= 0 && length < signs.length) {
                signs[length] = sign;
                length++;
            }
        }

        char signAt(int index) {
            return index >= 0 && index < length && index < signs.length ? signs[index] : 0;
        }

        /** How many characters there are ahead of the first one that is a syntax error. */
        int rightSigns() {
            int reached = BEGIN;
            for (int i = 0; i < length; i++) {
                reached = next(reached, signAt(i));
                if (reached == WRONG) {
                    return i;
                }
            }
            return length;
        }

        boolean isComplete() {
            int reached = BEGIN;
            for (int i = 0; i < length; i++) {
                reached = next(reached, signAt(i));
            }
            return reached == FIRST_DIGIT || reached == END;
        }

        int instructions() {
            int ends = 0;
            for (int i = 0; i < length; i++) {
                if (signAt(i) == ';') {
                    ends++;
                }
            }
            return ends + 1;
        }

        int nextInstruction(int start) {
            for (int i = start; i < length; i++) {
                if (signAt(i) == ';') {
                    return i + 1;
                }
            }
            return length;
        }

        void readInstruction(int start, Instruction row) {
            if (signAt(start) == '[') {
                row.become(STORE, NONE, registerAt(start + 1), registerAt(start + 5), digitAt(start + 2));
            } else if (signAt(start + 2) == '[') {
                row.become(LOAD, registerAt(start), registerAt(start + 3), NONE, digitAt(start + 4));
            } else if (isRegister(signAt(start + 2))) {
                int kind = signAt(start + 3) == '+' ? ADD : MUL;
                row.become(kind, registerAt(start), registerAt(start + 2), registerAt(start + 4), 0);
            } else {
                row.become(SET, registerAt(start), NONE, NONE, numberAt(start + 2));
            }
        }

        int registerAt(int index) {
            return signAt(index) - 'a';
        }

        int digitAt(int index) {
            return signAt(index) - '0';
        }

        int numberAt(int start) {
            int first = signAt(start) == '-' ? start + 1 : start;
            int size = digitAt(first);
            if (isDigit(signAt(first + 1))) {
                size = 10 * size + digitAt(first + 1);
            }
            return first > start ? -size : size;
        }

        long hashAll(long start) {
            long hash = 31 * start + length;
            for (int i = 0; i < length; i++) {
                hash = 31 * hash + signAt(i);
            }
            return hash;
        }

        static boolean isRegister(char sign) {
            return sign >= 'a' && sign <= 'h';
        }

        static boolean isDigit(char sign) {
            return sign >= '0' && sign <= '9';
        }

        static int next(int reached, char sign) {
            switch (reached) {
                case BEGIN: return sign == '[' ? STORE_OPENED : ifRegister(sign, TARGET);
                case TARGET: return sign == '=' ? RIGHT_SIDE : WRONG;
                case RIGHT_SIDE: return nextOfRightSide(sign);
                case MINUS: return nextOfNumber(sign);
                case FIRST_DIGIT: return isDigit(sign) ? END : nextOfEnd(sign);
                case END: return nextOfEnd(sign);
                case FIRST_OPERAND: return sign == '+' || sign == '*' ? LAST_LETTER : WRONG;
                case LAST_LETTER: return ifRegister(sign, END);
                case LOAD_OPENED: return ifRegister(sign, LOAD_REGISTER);
                case LOAD_REGISTER: return isDigit(sign) ? LOAD_OFFSET : WRONG;
                case LOAD_OFFSET: return sign == ']' ? END : WRONG;
                case STORE_OPENED: return ifRegister(sign, STORE_REGISTER);
                case STORE_REGISTER: return isDigit(sign) ? STORE_OFFSET : WRONG;
                case STORE_OFFSET: return sign == ']' ? STORE_CLOSED : WRONG;
                case STORE_CLOSED: return sign == '=' ? LAST_LETTER : WRONG;
                default: return WRONG;
            }
        }

        static int ifRegister(char sign, int then) {
            return isRegister(sign) ? then : WRONG;
        }

        static int nextOfRightSide(char sign) {
            if (sign == '-') {
                return MINUS;
            }
            if (sign == '[') {
                return LOAD_OPENED;
            }
            return isRegister(sign) ? FIRST_OPERAND : nextOfNumber(sign);
        }

        static int nextOfNumber(char sign) {
            if (sign == '0') {
                return END;
            }
            return isDigit(sign) ? FIRST_DIGIT : WRONG;
        }

        static int nextOfEnd(char sign) {
            return sign == ';' ? BEGIN : WRONG;
        }
    }
}
