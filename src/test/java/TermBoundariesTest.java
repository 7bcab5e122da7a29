/** The sentences of the Terms on values, programs, undo and exceptions that name a boundary case, each by itself. */
public final class TermBoundariesTest extends Runs {
    private static final String LONGEST = times(24, "a=1");

    public static void main(String[] args) {
        noneIsMinusOne();
        registersAreAToH();
        cellsAre0To15();
        valuesAreZeroAtFirst();
        resultsAboveAMillion();
        resultsBelowMinusAMillion();
        resultsKeepTheSignOfZero();
        cellWrapsAt16();
        cellOfValuesBelowZero();
        cellOfCastValues();
        programHas24Instructions();
        programHasNoneAtFirst();
        settingsAtFirst();
        atMostSixStates();
        oldestStateIsDroppedFirst();
        savedAlsoIfNothingIsChanged();
        onlyUndoableCallsSave();
        undoRestoresAllButTheBuffer();
        undoRestoresTheWindow();
        throwingCallsChangeNothing();
        throwingTextCallsChangeNothing();
        throwingCallsOfANewObjectChangeNothing();
        throwingRunAtTheLastCycleChangesNothing();
        CHECK.end();
    }

    private static void noneIsMinusOne() {
        CHECK.sentence("NONE = -1");
        CHECK.due("NONE", AlibiWindow.NONE, -1);
    }

    private static void registersAreAToH() {
        CHECK.sentence("There are 8 registers, named a to h and numbered 0 to 7");
        AlibiWindow x = ran("a=1;b=2;c=3;d=4;e=5;f=6;g=7;h=8", 50);
        for (int i = 0; i < 8; i++) {
            CHECK.due("register " + i, x.register(i, 0), bits((i + 1) / 4.0f));
        }
        CHECK.dueRange("register(.., 0)", 0, 7, INDEX, n -> x.register(n, 0));
        CHECK.due("the letter behind h", typed("i").firstError(), 0);
        CHECK.due("the sign ahead of a", typed("`").firstError(), 0);
    }

    private static void cellsAre0To15() {
        CHECK.sentence("and 16 cells of memory, numbered from 0");
        AlibiWindow x = new AlibiWindow();
        CHECK.dueRange("cell(.., 0)", 0, 15, INDEX, n -> x.cell(n, 0));
        CHECK.dueRange("putCell(.., 0)", 0, 15, INDEX, n -> x.putCell(n, 0));
    }

    private static void valuesAreZeroAtFirst() {
        CHECK.sentence("All of them hold floats, at first 0.0f");
        AlibiWindow x = new AlibiWindow();
        for (int i = 0; i < 8; i++) {
            CHECK.due("register " + i, x.register(i, 0), 0);
        }
        for (int i = 0; i < 16; i++) {
            CHECK.due("cell " + i, x.cell(i, 0), 0);
        }
    }

    private static void resultsAboveAMillion() {
        CHECK.sentence("If a result would be greater than 1000000.0f, it becomes 1000000.0f");
        dueSum(999999.9375f, 0.0625f, 1000000.0f);
        dueSum(1000000.0f, 0.0f, 1000000.0f);
        dueSum(1000000.0f, -0.0625f, 999999.9375f);
        dueSum(1000000.0f, 0.0625f, 1000000.0f);
        dueSum(1000000.0f, 1000000.0f, 1000000.0f);
        dueProduct(1000.0f, 1000.0f, 1000000.0f);
        dueProduct(1000.0f, Math.nextDown(1000.0f), 999999.9375f);
        dueProduct(1000.0f, Math.nextUp(1000.0f), 1000000.0f);
        dueProduct(1000000.0f, 1000000.0f, 1000000.0f);
        dueProduct(-1000000.0f, -1000000.0f, 1000000.0f);
    }

    private static void resultsBelowMinusAMillion() {
        CHECK.sentence("if it would be less than -1000000.0f, it becomes -1000000.0f");
        dueSum(-999999.9375f, -0.0625f, -1000000.0f);
        dueSum(-1000000.0f, 0.0625f, -999999.9375f);
        dueSum(-1000000.0f, -0.0625f, -1000000.0f);
        dueSum(-1000000.0f, -1000000.0f, -1000000.0f);
        dueProduct(-1000.0f, 1000.0f, -1000000.0f);
        dueProduct(-1000.0f, Math.nextDown(1000.0f), -999999.9375f);
        dueProduct(1000.0f, -Math.nextUp(1000.0f), -1000000.0f);
        dueProduct(1000000.0f, -1000000.0f, -1000000.0f);
    }

    private static void resultsKeepTheSignOfZero() {
        CHECK.sentence("A float is told by its bits");
        dueSum(-0.0f, -0.0f, -0.0f);
        dueSum(-0.0f, 0.0f, 0.0f);
        dueSum(1000000.0f, -1000000.0f, 0.0f);
        dueProduct(-0.0f, 1.0f, -0.0f);
        dueProduct(-0.0f, -1.0f, 0.0f);
        dueProduct(Float.MIN_VALUE, -0.25f, -0.0f);
        dueProduct(Float.MIN_VALUE, 1.0f, Float.MIN_VALUE);
    }

    private static void dueSum(float p, float q, float sum) {
        dueResult("c=a+b", p, q, sum);
    }

    private static void dueProduct(float p, float q, float product) {
        dueResult("c=a*b", p, q, product);
    }

    private static void dueResult(String text, float p, float q, float result) {
        AlibiWindow x = loaded(text);
        x.putRegister(0, bits(p));
        x.putRegister(1, bits(q));
        String what = text + " with " + p + " and " + q;
        CHECK.due(what + ", plainly", x.register(2, 2), bits(result));
        x.run(5);
        x.run(1);
        CHECK.due(what, x.register(2, 0), bits(result));
    }

    private static void cellWrapsAt16() {
        CHECK.sentence("The cell of p and o is (the value of p, cast to int, + o) modulo 16");
        dueCell(0.0f, 0, 0);
        dueCell(0.0f, 9, 9);
        dueCell(15.0f, 0, 15);
        dueCell(15.0f, 1, 0);
        dueCell(6.0f, 9, 15);
        dueCell(7.0f, 9, 0);
        dueCell(16.0f, 0, 0);
        dueCell(31.0f, 0, 15);
        dueCell(31.0f, 9, 8);
        dueCell(1000000.0f, 0, 0);
        dueCell(1000000.0f, 9, 9);
        dueCell(999999.9375f, 0, 15);
    }

    private static void cellOfValuesBelowZero() {
        CHECK.sentence("The cell of p and o is modulo 16, from 0 to 15");
        dueCell(-1.0f, 0, 15);
        dueCell(-1.0f, 1, 0);
        dueCell(-15.0f, 0, 1);
        dueCell(-16.0f, 0, 0);
        dueCell(-17.0f, 0, 15);
        dueCell(-25.0f, 9, 0);
        dueCell(-26.0f, 9, 15);
        dueCell(-1000000.0f, 0, 0);
        dueCell(-1000000.0f, 9, 9);
        dueCell(-999999.9375f, 0, 1);
    }

    private static void cellOfCastValues() {
        CHECK.sentence("The cell of p and o: the value of p, cast to int");
        dueCell(Math.nextDown(1.0f), 0, 0);
        dueCell(Math.nextDown(16.0f), 0, 15);
        dueCell(-0.0f, 0, 0);
        dueCell(-Math.nextDown(1.0f), 0, 0);
        dueCell(-1.75f, 0, 15);
        dueCell(-Math.nextDown(2.0f), 9, 8);
        dueCell(Float.MIN_VALUE, 0, 0);
        dueCell(-Float.MIN_VALUE, 0, 0);
    }

    private static void dueCell(float p, int offset, int cell) {
        String place = "[b" + offset + "]";
        AlibiWindow x = loaded("c=" + place + ";" + place + "=a");
        x.putRegister(0, ONE);
        x.putRegister(1, bits(p));
        x.putCell(cell, 77);
        String what = place + " with " + p;
        CHECK.due("load of " + what + ", plainly", x.register(2, 2), 77);
        CHECK.due("store to " + what + ", plainly", x.cell(cell, 1), ONE);
        x.run(4);
        CHECK.due("load of " + what + ", its cell", x.entry(0, 5), cell);
        CHECK.due("store to " + what + ", its cell", x.entry(1, 5), cell);
        x.run(1);
        CHECK.due("load of " + what, x.register(2, 0), 77);
        CHECK.due("store to " + what, x.cell(cell, 0), ONE);
    }

    private static void programHas24Instructions() {
        CHECK.sentence("A program has at most 24 instructions, numbered from 0");
        AlibiWindow x = typed(LONGEST);
        CHECK.due("load of 24", x.load(), 24);
        CHECK.dueRange("instruction(.., 0)", 0, 23, INDEX, n -> x.instruction(n, 0));
        CHECK.due("all of them are retired", x.run(100), 24);
        CHECK.dueThrow("load of 25", STATE, typed(LONGEST + ";a=1")::load);
    }

    private static void programHasNoneAtFirst() {
        CHECK.sentence("at first it has none");
        AlibiWindow x = new AlibiWindow();
        CHECK.due("instructions", x.count(1), 0);
        CHECK.dueThrow("instruction(0, 0)", INDEX, () -> x.instruction(0, 0));
        CHECK.due("load of one", loaded("a=1").count(1), 1);
    }

    private static void settingsAtFirst() {
        CHECK.sentence("the window, at first 4; the width, at first 2; the retired in a cycle, at first 2");
        AlibiWindow x = new AlibiWindow();
        CHECK.due("the window", x.setting(0), 4);
        CHECK.due("the width", x.setting(1), 2);
        CHECK.due("the retired in a cycle", x.setting(2), 2);
    }

    private static void atMostSixStates() {
        CHECK.sentence("At most 6 states are saved");
        AlibiWindow x = new AlibiWindow();
        for (int call = 1; call <= 8; call++) {
            x.putRegister(0, call);
            CHECK.due("saved behind call " + call, x.count(11), Math.min(call, 6));
        }
        for (int left = 5; left >= 0; left--) {
            CHECK.due("undo", x.undo(), left);
        }
        CHECK.dueThrow("a seventh undo", STATE, x::undo);
    }

    private static void oldestStateIsDroppedFirst() {
        CHECK.sentence("the oldest one is dropped first");
        for (int calls = 5; calls <= 14; calls++) {
            AlibiWindow x = new AlibiWindow();
            for (int call = 1; call <= calls; call++) {
                x.putCell(3, call);
            }
            int oldest = Math.max(calls - 6, 0);
            for (int state = calls - 1; state >= oldest; state--) {
                x.undo();
                CHECK.due("undone to call " + state + " of " + calls, x.cell(3, 0), state);
            }
            CHECK.dueThrow("undo of what was dropped", STATE, x::undo);
        }
    }

    private static void savedAlsoIfNothingIsChanged() {
        CHECK.sentence("saves the state from before it (also if it changes nothing)");
        AlibiWindow x = new AlibiWindow();
        x.set(0, 4);
        CHECK.due("saved by set to the same", x.count(11), 1);
        x.putRegister(0, 0);
        CHECK.due("saved by putRegister of the same", x.count(11), 2);
        x.putCell(0, 0);
        CHECK.due("saved by putCell of the same", x.count(11), 3);
        x.flush();
        CHECK.due("saved by flush of nothing", x.count(11), 4);
        x.again();
        CHECK.due("saved by again of nothing", x.count(11), 5);
        x.run(100);
        CHECK.due("saved by run of nothing, one state", x.count(11), 6);
        AlibiWindow y = loaded("a=1");
        type(y, "a=1");
        y.load();
        CHECK.due("saved by load of the same", y.count(11), 2);
    }

    private static void onlyUndoableCallsSave() {
        CHECK.sentence("Each method that is marked undoable saves the state");
        AlibiWindow x = ran(EARLY_LOAD, 3);
        int saved = x.count(11);
        x.append('a');
        x.firstError();
        x.clearBuffer();
        askAll(x);
        CHECK.due("saved by calls that are not marked", x.count(11), saved);
        CHECK.due("undo saves nothing", x.undo(), saved - 1);
        CHECK.due("undo saves nothing", x.count(11), saved - 1);
    }

    private static void askAll(AlibiWindow x) {
        x.instruction(0, 0);
        x.entry(0, 0);
        x.whyNot(0);
        x.register(0, 2);
        x.cell(0, 1);
        x.count(0);
        x.setting(0);
        x.ifRun(100, 0);
        x.cyclesLeft();
        x.bestWindow(0);
        x.worstLoad();
        x.earlyShare();
        x.digest();
    }

    private static void undoRestoresAllButTheBuffer() {
        CHECK.sentence("all but the buffer and the saved states");
        AlibiWindow x = typed("b=2;c=[b1]");
        x.load();
        type(x, "a=");
        CHECK.due("undo", x.undo(), 0);
        CHECK.due("the program from before load is none", x.count(1), 0);
        CHECK.due("the buffer is neither that of before nor empty", x.firstError(), 2);
        CHECK.due("the buffer is neither that of before nor empty", x.clearBuffer(), 2);
        AlibiWindow y = busy();
        String text = "a=1;b";
        y.undo();
        CHECK.due("the buffer stays", y.digest(), digestOf(y, text));
        CHECK.due("the saved states but one stay", y.count(11), 5);
    }

    private static void undoRestoresTheWindow() {
        CHECK.sentence("Restores the latest saved state: all but the buffer and the saved states");
        for (int cycles = 1; cycles <= 14; cycles++) {
            dueRestored(EARLY_LOAD + ";d=c*c;e=d+d", cycles);
            dueRestored(TWO_STORES + ";d=c*c;e=d+d", cycles);
            dueRestored("b=b*b;[b0]=c;[d0]=e;f=[d0]", cycles);
        }
    }

    private static void dueRestored(String text, int cycles) {
        AlibiWindow x = wideRan(text, cycles);
        AlibiWindow twin = wideRan(text, cycles);
        x.run(20);
        x.undo();
        CHECK.due("digest of cycle " + cycles + ", undone", x.digest(), twin.digest());
        x.run(20);
        twin.run(20);
        CHECK.due("digest when it goes on from there", x.digest(), twin.digest());
        dueAlike(x, twin);
    }

    /** In the middle of all: a replay, distrust, entries, six saved states and a text that does not end. */
    private static AlibiWindow busy() {
        AlibiWindow x = loaded(EARLY_LOAD + ";d=c*c");
        x.putRegister(7, ONE);
        x.putCell(15, MILLION);
        x.set(2, 1);
        x.run(4);
        x.run(2);
        x.run(1);
        type(x, "a=1;b");
        return x;
    }

    private static void throwingCallsChangeNothing() {
        CHECK.sentence("A call that throws an exception changes nothing");
        AlibiWindow x = busy();
        CHECK.dueThrow("set", INDEX, () -> x.set(3, 1));
        CHECK.dueThrow("set", ARGUMENT, () -> x.set(0, 9));
        CHECK.dueThrow("putRegister", INDEX, () -> x.putRegister(8, 0));
        CHECK.dueThrow("putRegister", ARGUMENT, () -> x.putRegister(0, MILLION + 1));
        CHECK.dueThrow("putRegister", STATE, () -> x.putRegister(0, 0));
        CHECK.dueThrow("putCell", INDEX, () -> x.putCell(16, 0));
        CHECK.dueThrow("putCell", ARGUMENT, () -> x.putCell(0, MILLION + 1));
        CHECK.dueThrow("putCell", STATE, () -> x.putCell(0, 0));
        CHECK.dueThrow("run", ARGUMENT, () -> x.run(101));
        CHECK.dueThrow("append", ARGUMENT, () -> x.append(32));
        CHECK.dueThrow("load", ARGUMENT, x::load);
        CHECK.dueThrow("instruction", INDEX, () -> x.instruction(5, 0));
        CHECK.dueThrow("instruction", ARGUMENT, () -> x.instruction(0, 7));
        CHECK.dueThrow("entry", INDEX, () -> x.entry(3, 0));
        CHECK.dueThrow("entry", ARGUMENT, () -> x.entry(0, 9));
        CHECK.dueThrow("whyNot", INDEX, () -> x.whyNot(3));
        CHECK.dueThrow("register", INDEX, () -> x.register(8, 0));
        CHECK.dueThrow("register", ARGUMENT, () -> x.register(0, 3));
        CHECK.dueThrow("cell", INDEX, () -> x.cell(16, 0));
        CHECK.dueThrow("cell", ARGUMENT, () -> x.cell(0, 2));
        CHECK.dueThrow("count", ARGUMENT, () -> x.count(12));
        CHECK.dueThrow("setting", INDEX, () -> x.setting(3));
        CHECK.dueThrow("ifRun", ARGUMENT, () -> x.ifRun(101, 0));
        CHECK.dueThrow("ifRun", ARGUMENT, () -> x.ifRun(1, 3));
        CHECK.dueThrow("bestWindow", ARGUMENT, () -> x.bestWindow(3));
        dueAlike(x, busy());
    }

    private static void throwingTextCallsChangeNothing() {
        CHECK.sentence("A call that throws an exception changes nothing: the buffer is full, or its program too long");
        AlibiWindow x = busy();
        AlibiWindow twin = busy();
        for (AlibiWindow each : new AlibiWindow[] {x, twin}) {
            each.clearBuffer();
            type(each, times(30, "b=2") + ";");
        }
        CHECK.dueThrow("append", STATE, () -> x.append('a'));
        CHECK.dueThrow("load", ARGUMENT, x::load);
        for (AlibiWindow each : new AlibiWindow[] {x, twin}) {
            each.clearBuffer();
            type(each, times(25, "b=2"));
        }
        CHECK.dueThrow("load", STATE, x::load);
        dueAlike(x, twin);
    }

    private static void throwingCallsOfANewObjectChangeNothing() {
        CHECK.sentence("A call that throws an exception changes nothing: nothing is saved or loaded");
        AlibiWindow x = new AlibiWindow();
        CHECK.dueThrow("undo", STATE, x::undo);
        CHECK.dueThrow("load", ARGUMENT, x::load);
        CHECK.dueThrow("set", ARGUMENT, () -> x.set(0, 0));
        CHECK.dueThrow("run", ARGUMENT, () -> x.run(0));
        dueAlike(x, new AlibiWindow());
    }

    private static void throwingRunAtTheLastCycleChangesNothing() {
        CHECK.sentence("A call that throws an exception changes nothing: run at the last cycle");
        AlibiWindow x = inCycle(9950);
        AlibiWindow twin = inCycle(9950);
        type(x, EARLY_LOAD);
        type(twin, EARLY_LOAD);
        x.load();
        twin.load();
        CHECK.dueThrow("run", STATE, () -> x.run(51));
        CHECK.dueThrow("run", STATE, () -> x.run(100));
        dueAlike(x, twin);
    }

    /** Alike now, and behind each undo. */
    private static void dueAlike(AlibiWindow x, AlibiWindow twin) {
        CHECK.due("digest", x.digest(), twin.digest());
        for (int left = twin.count(11); left > 0; left--) {
            CHECK.due("undo", x.undo(), twin.undo());
            CHECK.due("digest behind undo", x.digest(), twin.digest());
        }
    }
}
