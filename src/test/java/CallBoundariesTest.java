/** The sentences of promises 1 to 7 and 12 to 19 that name a boundary case, each by itself. */
public final class CallBoundariesTest extends Runs {
    private static final int[] NO_FLOATS_IN_RANGE = {MILLION + 1, MILLION + 1 | SIGN, bits(Float.MAX_VALUE),
        bits(-Float.MAX_VALUE), 0x7F800000, 0xFF800000, 0x7FC00000, 0x7F800001, 0xFF800001, -1, Integer.MAX_VALUE};
    private static final int[] FLOATS_IN_RANGE = {MILLION, MILLION | SIGN, MILLION - 1, MILLION - 1 | SIGN, 0, SIGN, 1,
        1 | SIGN, 0x007FFFFF, 0x00800000, 0x80800000, ONE};

    public static void main(String[] args) {
        newMachineHasNoProgram();
        newMachineHasAnEmptyBuffer();
        settingsAreThree();
        valuesOfASetting();
        setReturnsThePreviousValue();
        settingIsLookedAtFirst();
        registersToPutInto();
        bitsForARegister();
        noRegisterWithEntries();
        putRegisterReturnsThePreviousBits();
        registerIsLookedAtFirst();
        cellsToPutInto();
        bitsForACell();
        noCellWithEntries();
        putCellReturnsThePreviousBits();
        cellIsLookedAtFirst();
        runTakes1To100Cycles();
        lastCycleIs10000();
        cyclesAreLookedAtFirst();
        runReturnsTheRetired();
        runIsOneState();
        flushOfAnEmptyWindow();
        flushOfAFullWindow();
        flushedAreIssuedAnew();
        flushedEntriesAreOutOfTheWindow();
        flushLeavesDistrust();
        againOfNothing();
        againReturnsTheRetiredSince();
        againTakesAllDistrust();
        againLeavesValues();
        undoOfNothing();
        undoReturnsTheStatesLeft();
        instructionsThatAre();
        partsOfAnInstruction();
        partsThatAreNone();
        fourthPart();
        replaysAsTheFirstOne();
        replaysSinceItWasBegun();
        entriesThatAre();
        propertiesOfAnEntry();
        workThatIsLeft();
        namesThatAreNone();
        cellsThatAreNone();
        alibisThatAreNone();
        alibiOfARetiredStore();
        madeBits();
        whyNotOfEntriesThatAre();
        whyNotTellsTheFirstReason();
        whyNotOfADistrustedLoad();
        registersThatAre();
        factsOfARegister();
        latestMakerOfARegister();
        registerBehindTheProgram();
        cellsThatAre();
        factsOfACell();
        cellBehindTheProgram();
        numbersThatAre();
        numbersOfTheProgram();
        entriesMadeWaiting();
        retiredWithThoseOfProgramsBefore();
        loadsThatCameToBeDone();
        settingsThatAre();
        CHECK.end();
    }

    // ---- promise 1

    private static void newMachineHasNoProgram() {
        CHECK.sentence("Promise 1: a machine without a program");
        AlibiWindow x = new AlibiWindow();
        dueNumbers(x, "new", 0, 0, 0, 0, 0, 0, 0, 0, 0, 0, 1, 0);
        CHECK.due("run", x.run(100), 0);
        dueNumbers(x, "run", 100, 0, 0, 0, 0, 0, 0, 0, 0, 0, 1, 1);
    }

    private static void newMachineHasAnEmptyBuffer() {
        CHECK.sentence("Promise 1: with an empty buffer");
        CHECK.due("clearBuffer", new AlibiWindow().clearBuffer(), 0);
        CHECK.due("append", new AlibiWindow().append('a'), 1);
    }

    // ---- promise 2

    private static void settingsAreThree() {
        CHECK.sentence("Promise 2: IndexOutOfBoundsException if there is no such setting");
        AlibiWindow x = new AlibiWindow();
        CHECK.dueRange("set(.., 1)", 0, 2, INDEX, n -> x.set(n, 1));
    }

    private static void valuesOfASetting() {
        CHECK.sentence("Promise 2: IllegalArgumentException if value is out of range");
        AlibiWindow x = new AlibiWindow();
        CHECK.dueRange("set(0, ..)", 1, 8, ARGUMENT, n -> x.set(0, n));
        CHECK.dueRange("set(1, ..)", 1, 4, ARGUMENT, n -> x.set(1, n));
        CHECK.dueRange("set(2, ..)", 1, 4, ARGUMENT, n -> x.set(2, n));
    }

    private static void setReturnsThePreviousValue() {
        CHECK.sentence("Promise 2: Returns the previous value");
        AlibiWindow x = new AlibiWindow();
        int[] previous = {4, 2, 2};
        for (int setting = 0; setting <= 2; setting++) {
            CHECK.due("the first one", x.set(setting, 1), previous[setting]);
            CHECK.due("the one that was set", x.set(setting, 3), 1);
            CHECK.due("the same", x.set(setting, 3), 3);
            CHECK.due("the same", x.setting(setting), 3);
        }
    }

    private static void settingIsLookedAtFirst() {
        CHECK.sentence("Exceptions: the one that is named first is thrown: set");
        AlibiWindow x = new AlibiWindow();
        CHECK.dueThrow("set(3, 0)", INDEX, () -> x.set(3, 0));
        CHECK.dueThrow("set(-1, 9)", INDEX, () -> x.set(-1, 9));
    }

    // ---- promise 3

    private static void registersToPutInto() {
        CHECK.sentence("Promise 3: IndexOutOfBoundsException if there is no such register");
        AlibiWindow x = new AlibiWindow();
        CHECK.dueRange("putRegister(.., 1)", 0, 7, INDEX, n -> x.putRegister(n, n + 1));
        for (int i = 0; i < 8; i++) {
            CHECK.due("register " + i, x.register(i, 0), i + 1);
        }
    }

    private static void bitsForARegister() {
        CHECK.sentence("Promise 3: the bits of a float from -1000000.0f to 1000000.0f (-0.0f is one, too)");
        AlibiWindow x = new AlibiWindow();
        for (int right : FLOATS_IN_RANGE) {
            CHECK.dueNoThrow("putRegister(0, " + right + ")", () -> x.putRegister(0, right));
            CHECK.due("register", x.register(0, 0), right);
        }
        for (int wrong : NO_FLOATS_IN_RANGE) {
            CHECK.dueThrow("putRegister(0, " + wrong + ")", ARGUMENT, () -> x.putRegister(0, wrong));
        }
    }

    private static void noRegisterWithEntries() {
        CHECK.sentence("Promise 3: IllegalStateException if the window has entries");
        AlibiWindow x = loaded("a=1;a=2;a=3");
        x.set(0, 1);
        CHECK.due("ahead of the first entry", x.putRegister(1, 5), 0);
        x.run(1);
        CHECK.dueThrow("with one entry that waits", STATE, () -> x.putRegister(1, 6));
        x.run(8);
        CHECK.dueThrow("with one entry that is done", STATE, () -> x.putRegister(1, 6));
        x.flush();
        CHECK.due("flushed, not finished", x.putRegister(1, 6), 5);
        x.run(4);
        CHECK.due("finished", x.count(10), 1);
        CHECK.due("finished", x.putRegister(1, 7), 6);
        x.again();
        CHECK.due("begun anew", x.putRegister(1, 8), 7);
    }

    private static void putRegisterReturnsThePreviousBits() {
        CHECK.sentence("Promise 3: Returns the bits of the previous value");
        AlibiWindow x = new AlibiWindow();
        CHECK.due("the first one", x.putRegister(3, SIGN), 0);
        CHECK.due("that of -0.0f", x.putRegister(3, 0), SIGN);
        CHECK.due("that of 0.0f", x.putRegister(3, MILLION), 0);
        CHECK.due("the greatest one", x.putRegister(3, MILLION), MILLION);
        CHECK.due("that of another register", x.putRegister(4, MILLION), 0);
    }

    private static void registerIsLookedAtFirst() {
        CHECK.sentence("Exceptions: the one that is named first is thrown: putRegister");
        AlibiWindow x = ran("a=1", 1);
        CHECK.dueThrow("putRegister(8, -1)", INDEX, () -> x.putRegister(8, -1));
        CHECK.dueThrow("putRegister(-1, 0)", INDEX, () -> x.putRegister(-1, 0));
        CHECK.dueThrow("putRegister(7, -1)", ARGUMENT, () -> x.putRegister(7, -1));
        CHECK.dueThrow("putRegister(7, 0)", STATE, () -> x.putRegister(7, 0));
    }

    // ---- promise 4

    private static void cellsToPutInto() {
        CHECK.sentence("Promise 4: IndexOutOfBoundsException if there is no such cell");
        AlibiWindow x = new AlibiWindow();
        CHECK.dueRange("putCell(.., 1)", 0, 15, INDEX, n -> x.putCell(n, n + 1));
        for (int i = 0; i < 16; i++) {
            CHECK.due("cell " + i, x.cell(i, 0), i + 1);
        }
    }

    private static void bitsForACell() {
        CHECK.sentence("Promise 4: the bits of a float from -1000000.0f to 1000000.0f (-0.0f is one, too)");
        AlibiWindow x = new AlibiWindow();
        for (int right : FLOATS_IN_RANGE) {
            CHECK.dueNoThrow("putCell(0, " + right + ")", () -> x.putCell(0, right));
            CHECK.due("cell", x.cell(0, 0), right);
        }
        for (int wrong : NO_FLOATS_IN_RANGE) {
            CHECK.dueThrow("putCell(0, " + wrong + ")", ARGUMENT, () -> x.putCell(0, wrong));
        }
    }

    private static void noCellWithEntries() {
        CHECK.sentence("Promise 4: IllegalStateException if the window has entries");
        AlibiWindow x = loaded("a=1;a=2");
        x.set(0, 1);
        CHECK.due("ahead of the first entry", x.putCell(1, 5), 0);
        x.run(1);
        CHECK.dueThrow("with one entry that waits", STATE, () -> x.putCell(1, 6));
        x.run(5);
        CHECK.dueThrow("with one entry that is done", STATE, () -> x.putCell(1, 6));
        x.run(1);
        CHECK.due("finished", x.putCell(1, 6), 5);
    }

    private static void putCellReturnsThePreviousBits() {
        CHECK.sentence("Promise 4: Returns the bits of the previous value");
        AlibiWindow x = new AlibiWindow();
        CHECK.due("the first one", x.putCell(15, SIGN), 0);
        CHECK.due("that of -0.0f", x.putCell(15, 0), SIGN);
        CHECK.due("that of 0.0f", x.putCell(15, MILLION | SIGN), 0);
        CHECK.due("the least one", x.putCell(15, 0), MILLION | SIGN);
        CHECK.due("that of another cell", x.putCell(14, 0), 0);
    }

    private static void cellIsLookedAtFirst() {
        CHECK.sentence("Exceptions: the one that is named first is thrown: putCell");
        AlibiWindow x = ran("a=1", 1);
        CHECK.dueThrow("putCell(16, -1)", INDEX, () -> x.putCell(16, -1));
        CHECK.dueThrow("putCell(-1, 0)", INDEX, () -> x.putCell(-1, 0));
        CHECK.dueThrow("putCell(15, -1)", ARGUMENT, () -> x.putCell(15, -1));
        CHECK.dueThrow("putCell(15, 0)", STATE, () -> x.putCell(15, 0));
    }

    // ---- promise 5

    private static void runTakes1To100Cycles() {
        CHECK.sentence("Promise 5: IllegalArgumentException if cycles is out of range: 1 to 100");
        AlibiWindow x = new AlibiWindow();
        CHECK.dueRange("run", 1, 100, ARGUMENT, x::run);
        CHECK.due("cycles that passed", x.count(0), 5050);
    }

    private static void lastCycleIs10000() {
        CHECK.sentence("Promise 5: IllegalStateException if the number of the cycle would be above 10000");
        AlibiWindow x = inCycle(9999);
        CHECK.dueThrow("run(2) to 10001", STATE, () -> x.run(2));
        CHECK.dueNoThrow("run(1) to 10000", () -> x.run(1));
        CHECK.due("the number of the cycle", x.count(0), 10000);
        CHECK.dueThrow("run(1) to 10001", STATE, () -> x.run(1));
        CHECK.dueThrow("run(100) to 10100", STATE, () -> x.run(100));
        AlibiWindow y = inCycle(9901);
        CHECK.dueThrow("run(100) to 10001", STATE, () -> y.run(100));
        CHECK.dueNoThrow("run(99) to 10000", () -> y.run(99));
        AlibiWindow z = inCycle(9900);
        CHECK.dueNoThrow("run(100) to 10000", () -> z.run(100));
        z.undo();
        CHECK.dueNoThrow("run(100) to 10000 once more", () -> z.run(100));
    }

    private static void cyclesAreLookedAtFirst() {
        CHECK.sentence("Exceptions: the one that is named first is thrown: run");
        AlibiWindow x = inCycle(10000);
        CHECK.dueThrow("run(101)", ARGUMENT, () -> x.run(101));
        CHECK.dueThrow("run(0)", ARGUMENT, () -> x.run(0));
        CHECK.dueThrow("run(1)", STATE, () -> x.run(1));
    }

    private static void runReturnsTheRetired() {
        CHECK.sentence("Promise 5: Returns how many instructions were retired in them");
        AlibiWindow x = loaded(times(24, "a=1"));
        CHECK.due("none yet", x.run(3), 0);
        CHECK.due("two in a cycle", x.run(1), 2);
        CHECK.due("the others", x.run(100), 22);
        CHECK.due("none any more", x.run(100), 0);
        x.again();
        CHECK.due("all anew, not with those of before", x.run(100), 24);
    }

    private static void runIsOneState() {
        CHECK.sentence("Promise 5: Undoable, as one call");
        AlibiWindow x = new AlibiWindow();
        x.run(1);
        x.run(100);
        CHECK.due("saved states", x.count(11), 2);
        x.undo();
        CHECK.due("the number of the cycle", x.count(0), 1);
        x.undo();
        CHECK.due("the number of the cycle", x.count(0), 0);
    }

    // ---- promise 6

    private static void flushOfAnEmptyWindow() {
        CHECK.sentence("Promise 6: Returns how many entries there were: none");
        CHECK.due("without a program", new AlibiWindow().flush(), 0);
        CHECK.due("nothing is issued", loaded("a=1").flush(), 0);
        AlibiWindow x = ran("a=1", 4);
        CHECK.due("all is retired", x.flush(), 0);
        CHECK.due("finished", x.count(10), 1);
        AlibiWindow y = ran("a=1;b=2", 1);
        y.flush();
        CHECK.due("flushed", y.flush(), 0);
    }

    private static void flushOfAFullWindow() {
        CHECK.sentence("Promise 6: Returns how many entries there were: all that the window can have");
        AlibiWindow x = wideRan(times(9, "a=a*a"), 3);
        CHECK.due("flush", x.flush(), 8);
        dueNumbers(x, "flushed", 3, 9, 0, 0, 0);
        x.run(2);
        CHECK.due("issued anew", x.count(3), 8);
    }

    private static void flushedAreIssuedAnew() {
        CHECK.sentence("Promise 6: their instructions are not issued any more; they will be issued anew");
        AlibiWindow x = ran("a=1;b=2;c=a+b;d=c+c", 4);
        CHECK.due("retired", x.count(4), 2);
        CHECK.due("flush", x.flush(), 2);
        CHECK.due("issued", x.count(3), 2);
        x.run(1);
        dueEntry(x, 0, 2, 0, 0, NONE, NONE, NONE, NONE, 0, 0);
        dueEntry(x, 1, 3, 0, 0, 2, 2, NONE, NONE, 0, 2);
        x.run(10);
        CHECK.due("d", x.register(3, 0), bits(1.5f));
    }

    private static void flushedEntriesAreOutOfTheWindow() {
        CHECK.sentence("Promise 6: all entries leave the window");
        AlibiWindow x = ran("c=[a0];b=b*b", 3);
        CHECK.due("the LOAD's work that is left", x.entry(0, 2), 1);
        x.flush();
        x.run(3);
        CHECK.due("its work begins anew", x.count(8), 0);
        x.run(1);
        CHECK.due("done", x.count(8), 1);
        AlibiWindow y = ran(EARLY_LOAD, 6);
        CHECK.due("the LOAD is done", y.entry(2, 1), 2);
        y.flush();
        y.set(0, 1);
        y.run(9);
        CHECK.due("the STORE is retired", y.count(4), 3);
        CHECK.due("a LOAD that is not in the window is not replayed", y.count(5), 0);
    }

    private static void flushLeavesDistrust() {
        CHECK.sentence("Promise 6: (Distrust stays.)");
        AlibiWindow x = ran(EARLY_LOAD, 7);
        x.flush();
        CHECK.due("of 3", x.instruction(3, 5), 3);
        CHECK.due("the replay since it was begun", x.instruction(3, 6), 1);
        x.run(10);
        x.flush();
        CHECK.due("of 2", x.instruction(3, 5), 2);
    }

    // ---- promise 7

    private static void againOfNothing() {
        CHECK.sentence("Promise 7: Returns how many instructions were retired since it was begun: none");
        CHECK.due("without a program", new AlibiWindow().again(), 0);
        CHECK.due("nothing is issued", loaded("a=1").again(), 0);
        AlibiWindow x = ran("a=1", 3);
        CHECK.due("nothing is retired", x.again(), 0);
        dueNumbers(x, "the window is empty, no instruction is issued", 3, 1, 0, 0, 0, 0, 0, 0, 0, 0, 0);
    }

    private static void againReturnsTheRetiredSince() {
        CHECK.sentence("Promise 7: Returns how many instructions were retired since it was begun");
        AlibiWindow x = ran(times(24, "a=1"), 4);
        CHECK.due("two", x.again(), 2);
        CHECK.due("begun just now", x.again(), 0);
        x.run(4);
        x.flush();
        CHECK.due("flush begins nothing", x.again(), 2);
        x.run(100);
        CHECK.due("all", x.again(), 24);
        CHECK.due("retired in all", x.count(7), 28);
    }

    private static void againTakesAllDistrust() {
        CHECK.sentence("Promise 7: all distrust is 0");
        AlibiWindow x = ran(EARLY_LOAD + ";" + EARLY_LOAD, 10);
        x.flush();
        x.run(100);
        CHECK.due("distrust of the first LOAD", x.instruction(3, 5), 2);
        CHECK.due("distrust of the last one", x.instruction(7, 5), 2);
        x.again();
        for (int i = 0; i < 8; i++) {
            CHECK.due("distrust", x.instruction(i, 5), 0);
            CHECK.due("replays since it was begun", x.instruction(i, 6), 0);
        }
    }

    private static void againLeavesValues() {
        CHECK.sentence("Promise 7: the registers and the memory stay as they are");
        AlibiWindow x = ran(EARLY_LOAD, 9);
        CHECK.due("retired", x.count(4), 3);
        x.again();
        CHECK.due("a", x.register(0, 0), ONE);
        CHECK.due("b", x.register(1, 0), ONE);
        CHECK.due("c, whose LOAD was not retired", x.register(2, 0), 0);
        CHECK.due("cell 1", x.cell(1, 0), ONE);
    }

    // ---- promise 12

    private static void undoOfNothing() {
        CHECK.sentence("Promise 12: IllegalStateException if there is none");
        AlibiWindow x = new AlibiWindow();
        CHECK.dueThrow("undo of a new object", STATE, x::undo);
        x.flush();
        CHECK.dueNoThrow("undo of one", x::undo);
        CHECK.dueThrow("undo of none any more", STATE, x::undo);
        x.flush();
        CHECK.dueNoThrow("undo of one more", x::undo);
    }

    private static void undoReturnsTheStatesLeft() {
        CHECK.sentence("Promise 12: Returns how many saved states are left");
        AlibiWindow x = new AlibiWindow();
        x.flush();
        CHECK.due("undo of the only one", x.undo(), 0);
        for (int i = 0; i < 20; i++) {
            x.flush();
        }
        CHECK.due("undo of six", x.undo(), 5);
        CHECK.due("saved", x.count(11), 5);
        x.flush();
        CHECK.due("saved", x.count(11), 6);
        CHECK.due("undo of six", x.undo(), 5);
        CHECK.due("undo of five", x.undo(), 4);
    }

    // ---- promise 13

    private static void instructionsThatAre() {
        CHECK.sentence("Promise 13: IndexOutOfBoundsException if there is no such instruction");
        AlibiWindow none = new AlibiWindow();
        CHECK.dueThrow("instruction(0, 0) of none", INDEX, () -> none.instruction(0, 0));
        AlibiWindow one = loaded("a=1");
        CHECK.dueRange("instruction(.., 0) of one", 0, 0, INDEX, n -> one.instruction(n, 0));
        AlibiWindow most = loaded(times(24, "a=1"));
        CHECK.dueRange("instruction(.., 0) of 24", 0, 23, INDEX, n -> most.instruction(n, 0));
        CHECK.dueThrow("the one named first", INDEX, () -> one.instruction(1, 7));
        CHECK.dueThrow("the one named first", INDEX, () -> one.instruction(-1, -1));
    }

    private static void partsOfAnInstruction() {
        CHECK.sentence("Promise 13: IllegalArgumentException if what is not 0 to 6");
        AlibiWindow x = loaded("a=1");
        CHECK.dueRange("instruction(0, ..)", 0, 6, ARGUMENT, n -> x.instruction(0, n));
    }

    private static void partsThatAreNone() {
        CHECK.sentence("Promise 13: r, NONE for STORE; p, NONE for SET; q, NONE for SET and LOAD");
        AlibiWindow x = loaded("b=9;b=c+d;b=c*d;b=[c9];[c9]=d");
        dueParts(x, 0, 0, 1, NONE, NONE);
        dueParts(x, 1, 1, 1, 2, 3);
        dueParts(x, 2, 2, 1, 2, 3);
        dueParts(x, 3, 3, 1, 2, NONE);
        dueParts(x, 4, 4, NONE, 2, 3);
        AlibiWindow y = loaded("a=0;a=a+a;[a0]=a;a=[a0]");
        dueParts(y, 0, 0, 0, NONE, NONE);
        dueParts(y, 1, 1, 0, 0, 0);
        dueParts(y, 2, 4, NONE, 0, 0);
        dueParts(y, 3, 3, 0, 0, NONE);
    }

    private static void fourthPart() {
        CHECK.sentence("Promise 13: 4: n for SET, o for LOAD and STORE, 0 for others");
        AlibiWindow x = loaded("b=-99;b=99;b=c+d;b=c*d;b=[c9];[c9]=d;b=[c0];[c0]=d");
        int[] due = {-99, 99, 0, 0, 9, 9, 0, 0};
        for (int i = 0; i < due.length; i++) {
            CHECK.due("instruction(" + i + ", 4)", x.instruction(i, 4), due[i]);
        }
    }

    private static void replaysAsTheFirstOne() {
        CHECK.sentence("Promise 13: how often it was replayed, as the first one");
        AlibiWindow x = wideRan(EARLY_LOAD + ";d=[a0];e=d+d", 7);
        CHECK.due("entries made waiting", x.count(6), 3);
        CHECK.due("of the first one", x.instruction(3, 6), 1);
        CHECK.due("of a LOAD behind it, of the same cell", x.instruction(4, 6), 0);
        CHECK.due("of an ADD behind it", x.instruction(5, 6), 0);
        CHECK.due("of the STORE", x.instruction(2, 6), 0);
    }

    private static void replaysSinceItWasBegun() {
        CHECK.sentence("Promise 13: since the program was begun");
        AlibiWindow x = ran(EARLY_LOAD, 6);
        CHECK.due("at first", x.instruction(3, 6), 0);
        x.run(4);
        CHECK.due("finished", x.instruction(3, 6), 1);
        x.again();
        CHECK.due("begun by again", x.instruction(3, 6), 0);
        x.run(10);
        CHECK.due("finished", x.instruction(3, 6), 1);
        CHECK.due("in all", x.count(5), 2);
        type(x, EARLY_LOAD);
        x.load();
        CHECK.due("begun by load", x.instruction(3, 6), 0);
        x.undo();
        CHECK.due("undone", x.instruction(3, 6), 1);
    }

    // ---- promise 14

    private static void entriesThatAre() {
        CHECK.sentence("Promise 14: IndexOutOfBoundsException if there is no such entry");
        AlibiWindow none = loaded("a=1");
        CHECK.dueThrow("entry(0, 0) of none", INDEX, () -> none.entry(0, 0));
        AlibiWindow one = ran("a=1", 1);
        CHECK.dueRange("entry(.., 0) of one", 0, 0, INDEX, n -> one.entry(n, 0));
        AlibiWindow most = wideRan(times(9, "a=a*a"), 3);
        CHECK.dueRange("entry(.., 0) of eight", 0, 7, INDEX, n -> most.entry(n, 0));
        CHECK.dueThrow("the one named first", INDEX, () -> one.entry(1, 9));
        CHECK.dueThrow("the one named first", INDEX, () -> one.entry(-1, -1));
        one.run(3);
        CHECK.dueThrow("entry(0, 0) when it is retired", INDEX, () -> one.entry(0, 0));
    }

    private static void propertiesOfAnEntry() {
        CHECK.sentence("Promise 14: IllegalArgumentException if what is not 0 to 8");
        AlibiWindow x = ran("a=1", 1);
        CHECK.dueRange("entry(0, ..)", 0, 8, ARGUMENT, n -> x.entry(0, n));
    }

    private static void workThatIsLeft() {
        CHECK.sentence("Promise 14: 2: the work that is left, 0 if it is not working");
        AlibiWindow x = ran("a=a*a", 1);
        int[] due = {0, 3, 2, 1, 0};
        for (int left : due) {
            CHECK.due("the work in cycle " + x.count(0), x.entry(0, 2), left);
            x.run(1);
        }
    }

    private static void namesThatAreNone() {
        CHECK.sentence("Promise 14: NONE for none, for no such operand, and if that was retired");
        AlibiWindow x = wideRan("a=1;b=a+c;b=c+a;b=[a0];[c0]=a;a=2", 2);
        dueOfEntries(x, 3, NONE, 0, NONE, 0, NONE, NONE);
        dueOfEntries(x, 4, NONE, NONE, 0, NONE, 0, NONE);
        x.run(2);
        CHECK.due("the first one that is there", x.entry(0, 0), 1);
        for (int entry = 0; entry < x.count(2); entry++) {
            CHECK.due("the name of p", x.entry(entry, 3), NONE);
            CHECK.due("the name of q", x.entry(entry, 4), NONE);
        }
    }

    private static void cellsThatAreNone() {
        CHECK.sentence("Promise 14: 5: its cell, NONE if it is not a LOAD or STORE that is done");
        AlibiWindow x = wide("a=1;b=c+c;[c9]=d;e=[d7]");
        x.putRegister(2, bits(6.0f));
        for (int cycle = 1; cycle <= 2; cycle++) {
            x.run(1);
            dueOfEntries(x, 5, NONE, NONE, NONE, NONE);
        }
        x.run(1);
        dueOfEntries(x, 1, 2, 2, 2, 1);
        dueOfEntries(x, 5, NONE, NONE, 15, NONE);
        x.run(1);
        dueOfEntries(x, 0, 3);
        dueOfEntries(x, 5, 7);
    }

    private static void alibisThatAreNone() {
        CHECK.sentence("Promise 14: 6: its alibi, NONE also if it is not a LOAD that is done");
        AlibiWindow x = wideRan(TWO_STORES, 6);
        dueOfEntries(x, 0, 1, 2, 3, 4);
        dueOfEntries(x, 1, 2, 2, 1, 2);
        dueOfEntries(x, 6, NONE, NONE, NONE, 2);
        x.set(1, 1);
        x.run(1);
        dueOfEntries(x, 0, 3, 4);
        dueOfEntries(x, 1, 2, 1);
        dueOfEntries(x, 6, NONE, NONE);
        x.run(1);
        dueOfEntries(x, 6, NONE);
    }

    private static void alibiOfARetiredStore() {
        CHECK.sentence("Its alibi is the number of that STORE, or NONE");
        AlibiWindow x = wide("a=a+a;[b0]=a;c=[b0];d=d*d");
        x.set(2, 1);
        x.run(4);
        dueOfEntries(x, 0, 1, 2, 3);
        dueOfEntries(x, 6, NONE, 1, NONE);
        x.run(1);
        dueOfEntries(x, 0, 2, 3);
        CHECK.due("it stays when the STORE is retired", x.entry(0, 6), 1);
        AlibiWindow y = wideRan("[a0]=b;c=[a0];d=d*d", 4);
        dueOfEntries(y, 0, 1, 2);
        CHECK.due("it is not that of a STORE that was retired before", y.entry(0, 6), NONE);
    }

    private static void madeBits() {
        CHECK.sentence("Promise 14: 7: the bits of what it made, or of the value of a STORE, 0 if it is not done");
        AlibiWindow x = wide("a=-99;b=h*g;c=[d5];[d1]=g");
        x.putRegister(6, MILLION | SIGN);
        x.putRegister(7, MILLION);
        x.putCell(5, SIGN);
        x.run(2);
        dueOfEntries(x, 7, 0, 0, 0, 0);
        x.run(1);
        dueOfEntries(x, 7, bits(-24.75f), 0, 0, MILLION | SIGN);
        x.run(1);
        dueOfEntries(x, 7, 0, SIGN, MILLION | SIGN);
        x.run(1);
        dueOfEntries(x, 7, MILLION | SIGN, SIGN, MILLION | SIGN);
        AlibiWindow y = wideRan(EARLY_LOAD, 3);
        y.run(4);
        CHECK.due("the store's value", y.entry(0, 7), ONE);
        CHECK.due("0 when it was replayed", y.entry(1, 7), 0);
    }

    // ---- promise 15

    private static void whyNotOfEntriesThatAre() {
        CHECK.sentence("Promise 15: IndexOutOfBoundsException if there is no such entry");
        AlibiWindow none = new AlibiWindow();
        CHECK.dueBeyond("whyNot of none", 0, -1, INDEX, none::whyNot);
        AlibiWindow one = ran("a=1", 1);
        CHECK.dueRange("whyNot of one", 0, 0, INDEX, one::whyNot);
        AlibiWindow most = wideRan(times(9, "a=a*a"), 3);
        CHECK.dueRange("whyNot of eight", 0, 7, INDEX, most::whyNot);
    }

    private static void whyNotTellsTheFirstReason() {
        CHECK.sentence("Promise 15: the first one of these that applies: 1 it is not waiting; 2 p; 3 q is not ready");
        AlibiWindow x = wideRan("a=a*a;b=a+a;c=a+d;e=d+a;[a0]=d;[d0]=a;[a0]=a;f=[a0]", 2);
        int[] due = {1, 2, 2, 3, 2, 3, 2, 2};
        for (int entry = 0; entry < due.length; entry++) {
            CHECK.due("whyNot(" + entry + ")", x.whyNot(entry), due[entry]);
            CHECK.due("entry(" + entry + ", 8)", x.entry(entry, 8), due[entry]);
        }
        x.set(1, 1);
        x.run(3);
        CHECK.due("not waiting, as done", x.whyNot(0), 1);
        CHECK.due("not waiting, as working", x.whyNot(1), 1);
        for (int entry = 2; entry < due.length; entry++) {
            CHECK.due("it could if there were room in the width", x.whyNot(entry), 0);
        }
    }

    private static void whyNotOfADistrustedLoad() {
        CHECK.sentence("Promise 15: 4 it is a LOAD that is not trusted, and a STORE ahead of it is not done");
        AlibiWindow x = wideRan("b=b*b;[b0]=a;d=0;c=[d0]", 6);
        CHECK.due("distrust", x.instruction(3, 5), 3);
        x.flush();
        x.run(1);
        CHECK.due("p is not ready, which comes first", x.whyNot(2), 2);
        AlibiWindow y = wideRan("a=4;b=a*a;[b0]=a;e=5;c=[a0]", 7);
        CHECK.due("distrust", y.instruction(4, 5), 3);
        y.flush();
        y.run(2);
        CHECK.due("the STORE is working", y.whyNot(2), 4);
        y.flush();
        y.set(1, 1);
        y.run(3);
        dueOfEntries(y, 1, 2, 1, 0);
        CHECK.due("the STORE ahead is done", y.whyNot(2), 0);
        AlibiWindow z = ran(EARLY_LOAD, 7);
        z.flush();
        z.set(0, 1);
        z.run(4);
        dueOfEntries(z, 0, 3);
        CHECK.due("the STORE is retired", z.whyNot(0), 0);
    }

    // ---- promise 16

    private static void registersThatAre() {
        CHECK.sentence("Promise 16: IndexOutOfBoundsException if there is no such register");
        AlibiWindow x = new AlibiWindow();
        for (int what = 0; what <= 2; what++) {
            int fact = what;
            CHECK.dueRange("register(.., " + fact + ")", 0, 7, INDEX, n -> x.register(n, fact));
        }
        CHECK.dueThrow("the one named first", INDEX, () -> x.register(8, 3));
        CHECK.dueThrow("the one named first", INDEX, () -> x.register(-1, -1));
    }

    private static void factsOfARegister() {
        CHECK.sentence("Promise 16: IllegalArgumentException if what is not 0 to 2");
        AlibiWindow x = new AlibiWindow();
        CHECK.dueRange("register(0, ..)", 0, 2, ARGUMENT, n -> x.register(0, n));
    }

    private static void latestMakerOfARegister() {
        CHECK.sentence("Promise 16: 1: the number of the latest instruction in the window that makes it, NONE if none");
        AlibiWindow x = wide("a=1;a=a*a;a=a*a;b=a+a;[a0]=a");
        CHECK.due("issued is none", x.register(0, 1), NONE);
        x.run(1);
        CHECK.due("the latest one", x.register(0, 1), 2);
        CHECK.due("of b", x.register(1, 1), 3);
        CHECK.due("of c", x.register(2, 1), NONE);
        x.run(9);
        CHECK.due("retired is another", x.register(0, 1), NONE);
        CHECK.due("done is the one of b", x.register(1, 1), 3);
        AlibiWindow y = ran("a=1", 3);
        CHECK.due("done is the only one", y.register(0, 1), 0);
        y.run(1);
        CHECK.due("retired is the only one", y.register(0, 1), NONE);
    }

    private static void registerBehindTheProgram() {
        CHECK.sentence("Promise 16: 2: behind the program in the plain order, from the first instruction not retired on");
        AlibiWindow x = loaded("a=a+a;a=a+a;b=a+a");
        x.putRegister(0, ONE);
        x.set(2, 1);
        for (int cycle = 0; cycle < 10; cycle++) {
            CHECK.due("a in cycle " + cycle, x.register(0, 2), bits(4.0f));
            CHECK.due("b in cycle " + cycle, x.register(1, 2), bits(8.0f));
            x.run(1);
        }
        CHECK.due("finished", x.count(10), 1);
        x.putRegister(0, SIGN);
        CHECK.due("a that was put behind the end", x.register(0, 2), SIGN);
        x.again();
        CHECK.due("a when it is begun anew", x.register(0, 2), SIGN);
        CHECK.due("without a program", new AlibiWindow().register(0, 2), 0);
    }

    // ---- promise 17

    private static void cellsThatAre() {
        CHECK.sentence("Promise 17: IndexOutOfBoundsException if there is no such cell");
        AlibiWindow x = new AlibiWindow();
        CHECK.dueRange("cell(.., 0)", 0, 15, INDEX, n -> x.cell(n, 0));
        CHECK.dueRange("cell(.., 1)", 0, 15, INDEX, n -> x.cell(n, 1));
        CHECK.dueThrow("the one named first", INDEX, () -> x.cell(16, 2));
        CHECK.dueThrow("the one named first", INDEX, () -> x.cell(-1, -1));
    }

    private static void factsOfACell() {
        CHECK.sentence("Promise 17: IllegalArgumentException if what is not 0 or 1");
        AlibiWindow x = new AlibiWindow();
        CHECK.dueRange("cell(0, ..)", 0, 1, ARGUMENT, n -> x.cell(0, n));
    }

    private static void cellBehindTheProgram() {
        CHECK.sentence("Promise 17: 1: behind the program in the plain order, from the first instruction not retired on");
        AlibiWindow x = loaded("a=[b0];a=a+a;[b0]=a");
        x.putCell(0, ONE);
        for (int cycle = 0; cycle < 6; cycle++) {
            CHECK.due("cell 0 in cycle " + cycle, x.cell(0, 1), bits(2.0f));
            CHECK.due("cell 0 now", x.cell(0, 0), ONE);
            x.run(1);
        }
        x.run(1);
        CHECK.due("finished", x.count(10), 1);
        CHECK.due("cell 0, finished", x.cell(0, 1), bits(2.0f));
        x.again();
        CHECK.due("cell 0 when it is begun anew", x.cell(0, 1), bits(4.0f));
        CHECK.due("without a program", new AlibiWindow().cell(15, 1), 0);
    }

    // ---- promise 18

    private static void numbersThatAre() {
        CHECK.sentence("Promise 18: IllegalArgumentException if what is not 0 to 11");
        AlibiWindow x = new AlibiWindow();
        CHECK.dueRange("count", 0, 11, ARGUMENT, x::count);
    }

    private static void numbersOfTheProgram() {
        CHECK.sentence("Promise 18: 1: instructions; 2: entries; 3: that were issued; 4: of these, retired; 10: finished");
        AlibiWindow x = wide(times(24, "a=1"));
        x.set(2, 1);
        dueNumbers(x, "loaded", 0, 24, 0, 0, 0, 0, 0, 0, 0, 0, 0, 5);
        x.run(2);
        dueNumbers(x, "the window is full", 2, 24, 8, 8, 0, 0, 0, 0, 0, 0, 0, 6);
        x.flush();
        dueNumbers(x, "flushed", 2, 24, 0, 0, 0, 0, 0, 0, 0, 0, 0, 6);
        x.run(26);
        dueNumbers(x, "all but one", 28, 24, 1, 24, 23, 0, 0, 23, 0, 0, 0, 6);
        x.run(1);
        dueNumbers(x, "finished", 29, 24, 0, 24, 24, 0, 0, 24, 0, 0, 1, 6);
    }

    private static void entriesMadeWaiting() {
        CHECK.sentence("Promise 18: 6: (the LOAD and all behind it, also those that were waiting already)");
        AlibiWindow alone = wideRan(EARLY_LOAD, 7);
        CHECK.due("the LOAD alone", alone.count(6), 1);
        AlibiWindow x = wideRan(EARLY_LOAD + ";d=c*c;e=d+d", 6);
        dueOfEntries(x, 1, 2, 1, 2, 1, 0);
        CHECK.due("ahead of it", x.count(6), 0);
        x.run(1);
        CHECK.due("the LOAD, one that was working, one that was waiting", x.count(6), 3);
    }

    private static void retiredWithThoseOfProgramsBefore() {
        CHECK.sentence("Promise 18: 7: instructions retired so far, with those of programs before");
        AlibiWindow x = ran("a=1;b=2;c=3", 4);
        CHECK.due("two", x.count(7), 2);
        x.again();
        CHECK.due("again", x.count(7), 2);
        x.run(10);
        CHECK.due("all anew", x.count(7), 5);
        type(x, "a=1");
        x.load();
        CHECK.due("another program", x.count(7), 5);
        CHECK.due("of which none is retired", x.count(4), 0);
        x.run(4);
        CHECK.due("another program", x.count(7), 6);
        x.undo();
        CHECK.due("undone", x.count(7), 5);
    }

    private static void loadsThatCameToBeDone() {
        CHECK.sentence("Promise 18: 8: how often a LOAD came to be done; 9: of these, with a STORE ahead not done then");
        AlibiWindow x = ran(EARLY_LOAD, 4);
        CHECK.due("working", x.count(8), 0);
        x.run(1);
        CHECK.due("done", x.count(8), 1);
        CHECK.due("early", x.count(9), 1);
        x.run(5);
        CHECK.due("done once more when it was replayed", x.count(8), 2);
        CHECK.due("not early then", x.count(9), 1);
        AlibiWindow y = ran("c=[a0];[a0]=b", 4);
        CHECK.due("done", y.count(8), 1);
        CHECK.due("a STORE behind it does not matter", y.count(9), 0);
        AlibiWindow z = ran("b=b*b;c=[a0]", 4);
        CHECK.due("done", z.count(8), 1);
        z.flush();
        z.run(6);
        CHECK.due("done anew behind flush", z.count(8), 2);
        CHECK.due("never early", z.count(9), 0);
    }

    // ---- promise 19

    private static void settingsThatAre() {
        CHECK.sentence("Promise 19: IndexOutOfBoundsException if there is no such setting");
        AlibiWindow x = new AlibiWindow();
        CHECK.dueRange("setting", 0, 2, INDEX, x::setting);
        x.set(0, 8);
        x.set(1, 4);
        x.set(2, 1);
        CHECK.due("the window", x.setting(0), 8);
        CHECK.due("the width", x.setting(1), 4);
        CHECK.due("the retired in a cycle", x.setting(2), 1);
    }
}
