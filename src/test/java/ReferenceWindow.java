import java.util.ArrayList;
import java.util.HashMap;
import java.util.List;
import java.util.Map;
import java.util.regex.Pattern;

/** The document once more, in another way: entries as objects of a list, operands kept from their issuing, texts by patterns. */
public final class ReferenceWindow {
    private static final Pattern PROGRAM;

    static {
        String one = "(?:[a-h]=(?:-?(?:0|[1-9][0-9]?)|[a-h][+*][a-h]|\\[[a-h][0-9]\\])|\\[[a-h][0-9]\\]=[a-h])";
        PROGRAM = Pattern.compile(one + "(?:;" + one + ")*");
    }

    // Each beginning of a program can be completed by one of these.
    private static final String[] ENDS = {
        "", "a=1", "=1", "1", "a", "+a", "a0]", "0]", "]", "a0]=a", "0]=a", "]=a", "=a"
    };

    private static final class Code {
        int kind;
        int r = -1;
        int p = -1;
        int q = -1;
        int n;
    }

    private static final class Entry {
        int number;
        char stage = 'w';
        int left;
        int pName = -1;
        int qName = -1;
        float pNow;
        float qNow;
        int cell = -1;
        int alibi = -1;
        float value;

        Entry copy() {
            Entry e = new Entry();
            e.number = number;
            e.stage = stage;
            e.left = left;
            e.pName = pName;
            e.qName = qName;
            e.pNow = pNow;
            e.qNow = qNow;
            e.cell = cell;
            e.alibi = alibi;
            e.value = value;
            return e;
        }
    }

    private static final class State {
        List<Code> program = new ArrayList<>();
        List<Entry> window = new ArrayList<>();
        Map<Integer, Float> retiredValues = new HashMap<>();
        Map<Integer, Integer> distrust = new HashMap<>();
        Map<Integer, Integer> replayed = new HashMap<>();
        float[] registers = new float[8];
        float[] cells = new float[16];
        int[] settings = {4, 2, 2};
        int cycle;
        int nextToIssue;
        int retired;
        int replays;
        int thrownBack;
        int retiredInAll;
        int loads;
        int early;

        State copy() {
            State s = new State();
            s.program = new ArrayList<>(program);
            for (Entry e : window) {
                s.window.add(e.copy());
            }
            s.retiredValues = new HashMap<>(retiredValues);
            s.distrust = new HashMap<>(distrust);
            s.replayed = new HashMap<>(replayed);
            s.registers = registers.clone();
            s.cells = cells.clone();
            s.settings = settings.clone();
            s.cycle = cycle;
            s.nextToIssue = nextToIssue;
            s.retired = retired;
            s.replays = replays;
            s.thrownBack = thrownBack;
            s.retiredInAll = retiredInAll;
            s.loads = loads;
            s.early = early;
            return s;
        }

        Entry entryOf(int number) {
            for (Entry e : window) {
                if (e.number == number) {
                    return e;
                }
            }
            return null;
        }

        boolean ready(int name) {
            Entry maker = entryOf(name);
            return maker == null || maker.stage == 'd';
        }

        float operand(int name, float atIssue) {
            if (name < 0) {
                return atIssue;
            }
            Entry maker = entryOf(name);
            return maker != null ? maker.value : retiredValues.get(name);
        }

        Code codeOf(Entry e) {
            return program.get(e.number);
        }

        boolean openStoreAhead(Entry load) {
            return window.stream().anyMatch(
                e -> e.number < load.number && codeOf(e).kind == 4 && e.stage != 'd');
        }

        int whyNot(Entry e) {
            if (e.stage != 'w') {
                return 1;
            }
            if (!ready(e.pName)) {
                return 2;
            }
            if (!ready(e.qName)) {
                return 3;
            }
            boolean distrusted = codeOf(e).kind == 3 && distrust.getOrDefault(e.number, 0) > 0;
            return distrusted && openStoreAhead(e) ? 4 : 0;
        }

        void begin() {
            window.clear();
            retiredValues.clear();
            distrust.clear();
            replayed.clear();
            nextToIssue = 0;
            retired = 0;
        }

        void pass() {
            retire();
            for (Entry e : new ArrayList<>(window)) {
                if (e.stage == 'r' && --e.left == 0) {
                    complete(e);
                }
            }
            int started = 0;
            for (Entry e : window) {
                if (started < settings[1] && whyNot(e) == 0) {
                    e.stage = 'r';
                    e.left = new int[] {1, 1, 3, 2, 1}[codeOf(e).kind];
                    started++;
                }
            }
            issue();
            cycle++;
        }

        private void retire() {
            int count = 0;
            while (count < settings[2] && !window.isEmpty() && window.get(0).stage == 'd') {
                Entry e = window.remove(0);
                Code c = codeOf(e);
                if (c.kind == 4) {
                    cells[e.cell] = e.value;
                } else {
                    registers[c.r] = e.value;
                    retiredValues.put(e.number, e.value);
                }
                if (c.kind == 3 && distrust.getOrDefault(e.number, 0) > 0) {
                    distrust.merge(e.number, -1, Integer::sum);
                }
                count++;
                retired++;
                retiredInAll++;
            }
        }

        private void complete(Entry e) {
            Code c = codeOf(e);
            float p = operand(e.pName, e.pNow);
            float q = operand(e.qName, e.qNow);
            e.stage = 'd';
            if (c.kind <= 2) {
                e.value = compute(c, p, q);
                return;
            }
            e.cell = (((int) p + c.n) % 16 + 16) % 16;
            if (c.kind == 3) {
                e.value = cells[e.cell];
                e.alibi = -1;
                for (Entry s : window) {
                    if (s.number < e.number && codeOf(s).kind == 4 && s.stage == 'd' && s.cell == e.cell) {
                        e.value = s.value;
                        e.alibi = s.number;
                    }
                }
                loads++;
                early += openStoreAhead(e) ? 1 : 0;
                return;
            }
            e.value = q;
            for (Entry l : window) {
                boolean broken = l.number > e.number && codeOf(l).kind == 3 && l.stage == 'd'
                    && l.cell == e.cell && (l.alibi == -1 || l.alibi < e.number);
                if (broken) {
                    throwBack(l);
                    break;
                }
            }
        }

        private void throwBack(Entry load) {
            distrust.put(load.number, 3);
            replayed.merge(load.number, 1, Integer::sum);
            replays++;
            for (Entry e : window) {
                if (e.number >= load.number) {
                    e.stage = 'w';
                    e.left = 0;
                    e.cell = -1;
                    e.alibi = -1;
                    thrownBack++;
                }
            }
        }

        private void issue() {
            int count = 0;
            while (window.size() < settings[0] && count < settings[1] && nextToIssue < program.size()) {
                Entry e = new Entry();
                e.number = nextToIssue++;
                Code c = codeOf(e);
                e.pName = maker(c.p);
                e.qName = maker(c.q);
                e.pNow = c.p < 0 ? 0 : registers[c.p];
                e.qNow = c.q < 0 ? 0 : registers[c.q];
                window.add(e);
                count++;
            }
        }

        int maker(int register) {
            int name = -1;
            for (Entry e : window) {
                if (register >= 0 && codeOf(e).r == register) {
                    name = e.number;
                }
            }
            return name;
        }

        void plain() {
            for (int i = retired; i < program.size(); i++) {
                Code c = program.get(i);
                float p = c.p < 0 ? 0 : registers[c.p];
                float q = c.q < 0 ? 0 : registers[c.q];
                int cell = (((int) p + c.n) % 16 + 16) % 16;
                if (c.kind == 4) {
                    cells[cell] = q;
                } else {
                    registers[c.r] = c.kind == 3 ? cells[cell] : compute(c, p, q);
                }
            }
        }

        int toEnd() {
            int cycles = 0;
            while (retired < program.size()) {
                pass();
                cycles++;
            }
            return cycles;
        }

        static float compute(Code c, float p, float q) {
            float result = c.kind == 0 ? c.n / 4.0f : c.kind == 1 ? p + q : p * q;
            return result > 1000000.0f ? 1000000.0f : result < -1000000.0f ? -1000000.0f : result;
        }
    }

    private State state = new State();
    private final List<State> saved = new ArrayList<>();
    private final StringBuilder buffer = new StringBuilder();

    private void save() {
        saved.add(state.copy());
        if (saved.size() > 6) {
            saved.remove(0);
        }
    }

    private static void index(boolean there) {
        if (!there) {
            throw new IndexOutOfBoundsException();
        }
    }

    private static void argument(boolean right) {
        if (!right) {
            throw new IllegalArgumentException();
        }
    }

    private static void allowed(boolean allowed) {
        if (!allowed) {
            throw new IllegalStateException();
        }
    }

    private static boolean within(int value, int least, int greatest) {
        return value >= least && value <= greatest;
    }

    public int set(int setting, int value) {
        index(within(setting, 0, 2));
        argument(within(value, 1, setting == 0 ? 8 : 4));
        save();
        int previous = state.settings[setting];
        state.settings[setting] = value;
        return previous;
    }

    public int putRegister(int register, int bits) {
        index(within(register, 0, 7));
        return put(state.registers, register, bits);
    }

    public int putCell(int cell, int bits) {
        index(within(cell, 0, 15));
        return put(state.cells, cell, bits);
    }

    private int put(float[] values, int place, int bits) {
        float value = Float.intBitsToFloat(bits);
        argument(value >= -1000000.0f && value <= 1000000.0f);
        allowed(state.window.isEmpty());
        save();
        int previous = Float.floatToIntBits(values[place]);
        values[place] = value;
        return previous;
    }

    public int run(int cycles) {
        argument(within(cycles, 1, 100));
        allowed(state.cycle + cycles <= 10000);
        save();
        int before = state.retiredInAll;
        for (int i = 0; i < cycles; i++) {
            state.pass();
        }
        return state.retiredInAll - before;
    }

    public int flush() {
        save();
        int entries = state.window.size();
        state.nextToIssue -= entries;
        state.window.clear();
        return entries;
    }

    public int again() {
        save();
        int retired = state.retired;
        state.begin();
        return retired;
    }

    public int append(int code) {
        argument(within(code, 33, 126));
        allowed(buffer.length() < 120);
        return buffer.append((char) code).length();
    }

    public int clearBuffer() {
        int length = buffer.length();
        buffer.setLength(0);
        return length;
    }

    public int firstError() {
        for (int i = 0; i < buffer.length(); i++) {
            boolean begins = false;
            for (String end : ENDS) {
                begins |= PROGRAM.matcher(buffer.substring(0, i + 1) + end).matches();
            }
            if (!begins) {
                return i;
            }
        }
        return buffer.length();
    }

    public int load() {
        argument(PROGRAM.matcher(buffer).matches());
        String[] texts = buffer.toString().split(";");
        allowed(texts.length <= 24);
        save();
        state.program = new ArrayList<>();
        for (String text : texts) {
            state.program.add(read(text));
        }
        state.begin();
        buffer.setLength(0);
        return texts.length;
    }

    private static Code read(String text) {
        Code c = new Code();
        String left = text.substring(0, text.indexOf('='));
        String right = text.substring(text.indexOf('=') + 1);
        if (left.length() > 1) {
            c.kind = 4;
            c.p = left.charAt(1) - 'a';
            c.n = left.charAt(2) - '0';
            c.q = right.charAt(0) - 'a';
            return c;
        }
        c.r = left.charAt(0) - 'a';
        if (right.startsWith("[")) {
            c.kind = 3;
            c.p = right.charAt(1) - 'a';
            c.n = right.charAt(2) - '0';
        } else if (right.contains("+") || right.contains("*")) {
            c.kind = right.contains("+") ? 1 : 2;
            c.p = right.charAt(0) - 'a';
            c.q = right.charAt(2) - 'a';
        } else {
            c.n = Integer.parseInt(right);
        }
        return c;
    }

    public int undo() {
        allowed(!saved.isEmpty());
        state = saved.remove(saved.size() - 1);
        return saved.size();
    }

    public int instruction(int instruction, int what) {
        index(within(instruction, 0, state.program.size() - 1));
        argument(within(what, 0, 6));
        Code c = state.program.get(instruction);
        return new int[] {c.kind, c.r, c.p, c.q, c.n, state.distrust.getOrDefault(instruction, 0),
            state.replayed.getOrDefault(instruction, 0)}[what];
    }

    public int entry(int entry, int what) {
        index(within(entry, 0, state.window.size() - 1));
        argument(within(what, 0, 8));
        Entry e = state.window.get(entry);
        boolean done = e.stage == 'd';
        switch (what) {
            case 0: return e.number;
            case 1: return "wrd".indexOf(e.stage);
            case 2: return e.stage == 'r' ? e.left : 0;
            case 3: return state.entryOf(e.pName) == null ? -1 : e.pName;
            case 4: return state.entryOf(e.qName) == null ? -1 : e.qName;
            case 5: return done ? e.cell : -1;
            case 6: return done ? e.alibi : -1;
            case 7: return done ? Float.floatToIntBits(e.value) : 0;
            default: return state.whyNot(e);
        }
    }

    public int whyNot(int entry) {
        index(within(entry, 0, state.window.size() - 1));
        return state.whyNot(state.window.get(entry));
    }

    public int register(int register, int what) {
        index(within(register, 0, 7));
        argument(within(what, 0, 2));
        State behind = state.copy();
        behind.plain();
        return what == 1 ? state.maker(register)
            : Float.floatToIntBits((what == 0 ? state : behind).registers[register]);
    }

    public int cell(int cell, int what) {
        index(within(cell, 0, 15));
        argument(within(what, 0, 1));
        State behind = state.copy();
        behind.plain();
        return Float.floatToIntBits((what == 0 ? state : behind).cells[cell]);
    }

    public int count(int what) {
        argument(within(what, 0, 11));
        return new int[] {state.cycle, state.program.size(), state.window.size(), state.nextToIssue, state.retired,
            state.replays, state.thrownBack, state.retiredInAll, state.loads, state.early,
            state.retired == state.program.size() ? 1 : 0, saved.size()}[what];
    }

    public int setting(int setting) {
        index(within(setting, 0, 2));
        return state.settings[setting];
    }

    public int ifRun(int cycles, int what) {
        argument(within(cycles, 1, 100) && within(what, 0, 2));
        State then = state.copy();
        for (int i = 0; i < cycles; i++) {
            then.pass();
        }
        return new int[] {then.retiredInAll - state.retiredInAll, then.replays - state.replays,
            then.window.size()}[what];
    }

    public int cyclesLeft() {
        return state.copy().toEnd();
    }

    public int bestWindow(int what) {
        argument(within(what, 0, 2));
        int[] best = null;
        for (int window = 1; window <= 8; window++) {
            State then = state.copy();
            then.begin();
            then.settings[0] = window;
            int cycles = then.toEnd();
            if (best == null || cycles < best[1]) {
                best = new int[] {window, cycles, then.replays - state.replays};
            }
        }
        return best[what];
    }

    public int worstLoad() {
        int worst = -1;
        for (int i = 0; i < state.program.size(); i++) {
            if (instruction(i, 6) > (worst < 0 ? 0 : instruction(worst, 6))) {
                worst = i;
            }
        }
        return worst;
    }

    public double earlyShare() {
        return count(8) == 0 ? 0.0 : (double) count(9) / count(8);
    }

    public long digest() {
        List<Long> values = new ArrayList<>();
        for (int i = 0; i < 12; i++) {
            values.add((long) count(i));
        }
        for (int i = 0; i < 3; i++) {
            values.add((long) setting(i));
        }
        for (int i = 0; i < 7 * state.program.size(); i++) {
            values.add((long) instruction(i / 7, i % 7));
        }
        for (int i = 0; i < 9 * state.window.size(); i++) {
            values.add((long) entry(i / 9, i % 9));
        }
        for (int i = 0; i < 24; i++) {
            values.add((long) register(i / 3, i % 3));
        }
        for (int i = 0; i < 32; i++) {
            values.add((long) cell(i / 2, i % 2));
        }
        for (int i = 0; i < 3; i++) {
            values.add((long) ifRun(10, i));
        }
        values.add((long) cyclesLeft());
        for (int i = 0; i < 3; i++) {
            values.add((long) bestWindow(i));
        }
        values.add((long) worstLoad());
        values.add(Double.doubleToLongBits(earlyShare()));
        values.add((long) buffer.length());
        buffer.chars().forEach(c -> values.add((long) c));
        long hash = 2371;
        for (long value : values) {
            hash = 31 * hash + value;
        }
        return hash;
    }
}
