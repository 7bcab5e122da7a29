/** What each promise of the document says, by runs followed by hand. */
public final class PromisesTest extends Runs {
    private static final int[] OUTSIDE = {-1, Integer.MIN_VALUE, Integer.MAX_VALUE};

    public static void main(String[] args) {
        promise1();
        promise2();
        promise3();
        promise4();
        promise5();
        promise6();
        promise7();
        promise8();
        promise9();
        promise10();
        promise11();
        promise12();
        promise13();
        promise14();
        promise15();
        promise16();
        promise17();
        promise18();
        promise19();
        promise20();
        promise21();
        promise22();
        promise23();
        promise24();
        promise25();
        CHECK.end();
    }

    private static void promise1() {
        CHECK.due("NONE", AlibiWindow.NONE, -1);
        AlibiWindow x = new AlibiWindow();
        dueNumbers(x, "new", 0, 0, 0, 0, 0, 0, 0, 0, 0, 0, 1, 0);
        for (int i = 0; i < 8; i++) {
            CHECK.due("register of a new object", x.register(i, 0), 0);
        }
        for (int i = 0; i < 16; i++) {
            CHECK.due("cell of a new object", x.cell(i, 0), 0);
        }
        CHECK.due("its buffer", x.clearBuffer(), 0);
        CHECK.dueThrow("undo", STATE, x::undo);
        AlibiWindow other = loaded("a=1");
        CHECK.due("objects are apart", x.count(1), 0);
        CHECK.due("objects are apart", other.count(1), 1);
    }

    private static void promise2() {
        AlibiWindow x = new AlibiWindow();
        CHECK.due("set window", x.set(0, 8), 4);
        CHECK.due("set window", x.set(0, 1), 8);
        CHECK.due("set width", x.set(1, 4), 2);
        CHECK.due("set width", x.set(1, 1), 4);
        CHECK.due("set retiring", x.set(2, 4), 2);
        CHECK.due("set to the same", x.set(2, 4), 4);
        CHECK.due("each is undoable", x.count(11), 6);
        for (int wrong : OUTSIDE) {
            CHECK.dueThrow("set(" + wrong + ", 1)", INDEX, () -> x.set(wrong, 1));
            CHECK.dueThrow("set(0, " + wrong + ")", ARGUMENT, () -> x.set(0, wrong));
        }
        CHECK.dueThrow("set(3, 99)", INDEX, () -> x.set(3, 99));
        CHECK.dueThrow("set(0, 0)", ARGUMENT, () -> x.set(0, 0));
        CHECK.dueThrow("set(0, 9)", ARGUMENT, () -> x.set(0, 9));
        CHECK.dueThrow("set(1, 5)", ARGUMENT, () -> x.set(1, 5));
        CHECK.dueThrow("set(2, 0)", ARGUMENT, () -> x.set(2, 0));
        CHECK.dueThrow("set(2, 5)", ARGUMENT, () -> x.set(2, 5));
        x.undo();
        x.undo();
        CHECK.due("undone", x.setting(2), 2);
        settingsGovernCycles();
    }

    private static void settingsGovernCycles() {
        AlibiWindow x = loaded("a=1;b=1;c=1;d=1;e=1;f=1;g=1;h=1");
        x.set(1, 4);
        x.set(0, 3);
        x.run(1);
        CHECK.due("the window bounds the issued", x.count(2), 3);
        x.set(0, 8);
        x.run(1);
        CHECK.due("the width bounds the issued", x.count(2), 7);
        x.set(0, 1);
        CHECK.due("entries stay in a smaller window", x.count(2), 7);
        x.set(1, 1);
        x.set(2, 1);
        x.run(1);
        CHECK.due("the width bounds the started", x.entry(3, 1) + x.entry(4, 1), 1);
        CHECK.due("retired, one in a cycle", x.run(2), 2);
    }

    private static void promise3() {
        AlibiWindow x = new AlibiWindow();
        CHECK.due("putRegister", x.putRegister(0, ONE), 0);
        CHECK.due("putRegister", x.putRegister(0, 0x80000000), ONE);
        CHECK.due("putRegister", x.putRegister(0, MILLION), 0x80000000);
        CHECK.due("putRegister", x.putRegister(7, MILLION | 0x80000000), 0);
        CHECK.due("putRegister", x.putRegister(7, 1), MILLION | 0x80000000);
        CHECK.due("register", x.register(7, 0), 1);
        CHECK.due("undoable", x.count(11), 5);
        for (int wrong : new int[] {-1, 8, Integer.MIN_VALUE, Integer.MAX_VALUE}) {
            CHECK.dueThrow("putRegister(" + wrong + ")", INDEX, () -> x.putRegister(wrong, 0x7FC00000));
        }
        for (int wrong : new int[] {MILLION + 1, (MILLION + 1) | 0x80000000, 0x7F800000, 0xFF800000, 0x7FC00000, -1}) {
            CHECK.dueThrow("putRegister(0, " + wrong + ")", ARGUMENT, () -> x.putRegister(0, wrong));
        }
        AlibiWindow busy = ran("a=1", 1);
        CHECK.dueThrow("putRegister with entries", STATE, () -> busy.putRegister(0, 0));
        CHECK.dueThrow("putRegister, bits first", ARGUMENT, () -> busy.putRegister(0, -1));
        CHECK.dueThrow("putRegister, register first", INDEX, () -> busy.putRegister(8, -1));
        busy.flush();
        CHECK.due("putRegister behind flush", busy.putRegister(0, ONE), 0);
    }

    private static void promise4() {
        AlibiWindow x = new AlibiWindow();
        CHECK.due("putCell", x.putCell(0, ONE), 0);
        CHECK.due("putCell", x.putCell(15, 0x80000000), 0);
        CHECK.due("putCell", x.putCell(15, MILLION), 0x80000000);
        CHECK.due("cell", x.cell(15, 0), MILLION);
        CHECK.due("cell", x.cell(0, 0), ONE);
        x.undo();
        CHECK.due("undone", x.cell(15, 0), 0x80000000);
        for (int wrong : new int[] {-1, 16, Integer.MIN_VALUE, Integer.MAX_VALUE}) {
            CHECK.dueThrow("putCell(" + wrong + ")", INDEX, () -> x.putCell(wrong, -1));
        }
        CHECK.dueThrow("putCell(0, too great)", ARGUMENT, () -> x.putCell(0, MILLION + 1));
        CHECK.dueThrow("putCell(0, NaN)", ARGUMENT, () -> x.putCell(0, -1));
        AlibiWindow busy = ran("a=1", 1);
        CHECK.dueThrow("putCell with entries", STATE, () -> busy.putCell(0, 0));
        CHECK.dueThrow("putCell, bits first", ARGUMENT, () -> busy.putCell(0, 0x7F800000));
    }

    private static void promise5() {
        AlibiWindow x = loaded("a=5");
        CHECK.due("issued, started, worked on", x.run(3), 0);
        CHECK.due("retired", x.run(1), 1);
        CHECK.due("a", x.register(0, 0), Float.floatToIntBits(1.25f));
        CHECK.due("finished programs pass cycles", x.run(100), 0);
        CHECK.due("cycles", x.count(0), 104);
        x.undo();
        CHECK.due("one call is one state", x.count(0), 4);
        for (int wrong : new int[] {0, 101, -1, Integer.MIN_VALUE, Integer.MAX_VALUE}) {
            CHECK.dueThrow("run(" + wrong + ")", ARGUMENT, () -> x.run(wrong));
        }
        earlyLoadIsReplayed();
        storeBreaksLowerAlibi();
        lastCycle();
    }

    private static void earlyLoadIsReplayed() {
        AlibiWindow x = loaded(EARLY_LOAD);
        CHECK.due("run", x.run(5), 1);
        dueEntry(x, 2, 3, 2, 0, NONE, NONE, 1, NONE, 0, 1);
        x.run(2);
        dueNumbers(x, "replayed", 7, 4, 2, 4, 2, 1, 1, 2, 1, 1, 0);
        dueEntry(x, 0, 2, 2, 0, NONE, NONE, 1, NONE, ONE, 1);
        dueEntry(x, 1, 3, 1, 2, NONE, NONE, NONE, NONE, 0, 1);
        dueParts(x, 3, 3, 2, 0, NONE, 0, 3, 1);
        CHECK.due("run", x.run(3), 2);
        dueNumbers(x, "finished", 10, 4, 0, 4, 4, 1, 1, 4, 2, 1, 1);
        dueParts(x, 3, 3, 2, 0, NONE, 0, 2, 1);
        CHECK.due("c", x.register(2, 0), ONE);
        CHECK.due("cell 1", x.cell(1, 0), ONE);
    }

    private static void storeBreaksLowerAlibi() {
        AlibiWindow x = loaded(TWO_STORES + ";d=c+c");
        x.set(0, 8);
        x.set(1, 4);
        x.run(6);
        dueEntry(x, 3, 4, 2, 0, NONE, NONE, 1, 2, ONE, 1);
        dueEntry(x, 4, 5, 2, 0, 4, 4, NONE, NONE, Float.floatToIntBits(2.0f), 1);
        x.run(1);
        CHECK.due("a store behind the alibi breaks it", x.count(5), 1);
        CHECK.due("what depends on the load waits again", x.count(6), 2);
        dueEntry(x, 2, 5, 0, 0, 4, 4, NONE, NONE, 0, 2);
    }

    private static void lastCycle() {
        AlibiWindow x = new AlibiWindow();
        for (int i = 0; i < 99; i++) {
            x.run(100);
        }
        x.run(99);
        CHECK.dueThrow("run beyond 10000", STATE, () -> x.run(2));
        CHECK.dueThrow("run(101) beyond 10000", ARGUMENT, () -> x.run(101));
        CHECK.due("the last cycle", x.run(1), 0);
        CHECK.due("the last cycle", x.count(0), 10000);
        CHECK.dueThrow("run beyond 10000", STATE, () -> x.run(1));
        CHECK.due("no limit for what would be", x.ifRun(100, 0), 0);
        type(x, "a=1");
        x.load();
        CHECK.due("no limit for what would be", x.ifRun(100, 0), 1);
        CHECK.due("no limit for what would be", x.cyclesLeft(), 4);
    }

    private static void promise6() {
        AlibiWindow x = ran(EARLY_LOAD, 7);
        CHECK.due("flush", x.flush(), 2);
        dueNumbers(x, "flushed", 7, 4, 0, 2, 2, 1, 1, 2, 1, 1, 0, 3);
        CHECK.due("distrust stays", x.instruction(3, 5), 3);
        CHECK.due("replays stay", x.instruction(3, 6), 1);
        CHECK.due("the store did not come to be", x.cell(1, 0), 0);
        CHECK.due("flush of nothing", x.flush(), 0);
        CHECK.due("undoable", x.count(11), 4);
        x.undo();
        x.undo();
        CHECK.due("undone", x.count(2), 2);
        x.flush();
        CHECK.due("issued anew", x.run(100), 2);
        CHECK.due("c", x.register(2, 0), ONE);
        CHECK.due("no replay of a distrusted load", x.count(5), 1);
    }

    private static void promise7() {
        AlibiWindow x = ran(EARLY_LOAD, 7);
        CHECK.due("again", x.again(), 2);
        dueNumbers(x, "begun anew", 7, 4, 0, 0, 0, 1, 1, 2, 1, 1, 0, 3);
        CHECK.due("no distrust", x.instruction(3, 5), 0);
        CHECK.due("no replays since", x.instruction(3, 6), 0);
        CHECK.due("registers stay", x.register(1, 0), ONE);
        x.run(100);
        CHECK.due("retired in all", x.count(7), 6);
        CHECK.due("again behind the end", x.again(), 4);
        CHECK.due("memory stays", x.cell(1, 0), ONE);
        x.undo();
        CHECK.due("undone", x.count(10), 1);
        CHECK.due("again without a program", new AlibiWindow().again(), 0);
    }

    private static void promise8() {
        AlibiWindow x = new AlibiWindow();
        CHECK.due("append", x.append(33), 1);
        CHECK.due("append", x.append(126), 2);
        for (int wrong : new int[] {32, 127, -1, 65536 + 97, Integer.MIN_VALUE, Integer.MAX_VALUE}) {
            CHECK.dueThrow("append(" + wrong + ")", ARGUMENT, () -> x.append(wrong));
        }
        for (int i = 3; i <= 120; i++) {
            CHECK.due("append", x.append('a'), i);
        }
        CHECK.dueThrow("append to a full buffer", STATE, () -> x.append('a'));
        CHECK.dueThrow("append, code first", ARGUMENT, () -> x.append(32));
        CHECK.due("not undoable", x.count(11), 0);
        CHECK.due("length", x.clearBuffer(), 120);
    }

    private static void promise9() {
        AlibiWindow x = typed("a=1");
        CHECK.due("clearBuffer", x.clearBuffer(), 3);
        CHECK.due("clearBuffer", x.clearBuffer(), 0);
        CHECK.due("append", x.append('b'), 1);
        CHECK.due("not undoable", x.count(11), 0);
    }

    private static void promise10() {
        String[] right = {"", "a", "a=", "a=-", "a=-0", "a=0", "a=9", "a=-99", "a=b", "a=b+", "a=b*", "a=b*c", "a=[",
            "a=[b", "a=[b9", "a=[b9]", "[", "[h", "[h0", "[h0]", "[h0]=", "[h0]=a", "a=1;", "a=1;[b0]=c;h=h+h;"};
        for (String text : right) {
            CHECK.due("firstError of " + text, typed(text).firstError(), text.length());
        }
        // All but the last sign begin a program.
        String[] wrong = {"i", "A", ";", "1", "=", "ab", "a;", "a=i", "a=+", "a=]", "a=;", "a=--", "a=-a", "a=-;",
            "a=00", "a=05", "a=-00", "a=-01", "a=123", "a=-123", "a=5a", "a=5+", "a=b;", "a=b-", "a=bc", "a=b1",
            "a=b+1", "a=b+-", "a=b+[", "a=b+i", "a=b+c+", "a=b+c1", "a=[i", "a=[1", "a=[]", "a=[bb", "a=[b]", "a=[b-",
            "a=[b10", "a=[b1;", "a=[b1]+", "a=[b1]]", "[i", "[1", "[[", "[a]", "[aa", "[a00", "[a0=", "[a0];",
            "[a0]=1", "[a0]=[", "[a0]=-", "[a0]=a+", "[a0]=aa", "a=1;;", "a=1;1", "a=1,"};
        for (String text : wrong) {
            CHECK.due("firstError of " + text, typed(text).firstError(), text.length() - 1);
            CHECK.due("firstError of " + text + "a=1", typed(text + "a=1").firstError(), text.length() - 1);
        }
        StringBuilder many = new StringBuilder("a=1");
        for (int i = 0; i < 29; i++) {
            many.append(";a=1");
        }
        CHECK.due("no error in 30 instructions", typed(many.toString()).firstError(), 119);
        CHECK.due("nor in the next ;", typed(many + ";").firstError(), 120);
    }

    private static void promise11() {
        AlibiWindow x = typed("a=-99;b=a+c;h=h*g;d=[e9];[f0]=g;a=-0;c=10");
        CHECK.due("load", x.load(), 7);
        CHECK.due("the buffer is cleared", x.clearBuffer(), 0);
        dueParts(x, 0, 0, 0, NONE, NONE, -99, 0, 0);
        dueParts(x, 1, 1, 1, 0, 2, 0, 0, 0);
        dueParts(x, 2, 2, 7, 7, 6, 0, 0, 0);
        dueParts(x, 3, 3, 3, 4, NONE, 9, 0, 0);
        dueParts(x, 4, 4, NONE, 5, 6, 0, 0, 0);
        dueParts(x, 5, 0, 0, NONE, NONE, 0, 0, 0);
        dueParts(x, 6, 0, 2, NONE, NONE, 10, 0, 0);
        x.run(100);
        CHECK.due("-0 is 0", x.register(0, 0), 0);
        type(x, "a=1;");
        CHECK.dueThrow("load of a text that goes on", ARGUMENT, x::load);
        CHECK.due("a failed load changes nothing", x.clearBuffer(), 4);
        for (String text : new String[] {"", "a", "a=-", "[a0]=", "a=1;b", "a=b", "a=[b0", "a=1;;b=1", "a=05"}) {
            CHECK.dueThrow("load of " + text, ARGUMENT, typed(text)::load);
        }
        tooManyInstructions();
        loadBeginsAnew();
    }

    private static void tooManyInstructions() {
        StringBuilder most = new StringBuilder("a=1");
        for (int i = 1; i < 24; i++) {
            most.append(";a=1");
        }
        CHECK.due("load of 24", typed(most.toString()).load(), 24);
        AlibiWindow x = typed(most + ";b=1");
        CHECK.dueThrow("load of 25", STATE, x::load);
        CHECK.due("nothing is saved", x.count(11), 0);
        CHECK.due("the buffer stays", x.clearBuffer(), 99);
        CHECK.dueThrow("load of 25 and an error", ARGUMENT, typed(most + ";b=1;")::load);
    }

    private static void loadBeginsAnew() {
        AlibiWindow x = ran(EARLY_LOAD, 7);
        type(x, "h=c+c");
        CHECK.due("load in place of another", x.load(), 1);
        dueNumbers(x, "loaded", 7, 1, 0, 0, 0, 1, 1, 2, 1, 1, 0, 3);
        CHECK.due("registers stay", x.register(0, 0), ONE);
        x.run(1);
        CHECK.due("no name of the old program", x.entry(0, 3), NONE);
        x.undo();
        x.undo();
        dueNumbers(x, "undone", 7, 4, 2, 4, 2, 1, 1, 2, 1, 1, 0, 2);
        CHECK.due("the buffer is not restored", x.clearBuffer(), 0);
    }

    private static void promise12() {
        AlibiWindow x = new AlibiWindow();
        for (int i = 1; i <= 8; i++) {
            x.putRegister(0, i);
        }
        CHECK.due("six are saved", x.count(11), 6);
        type(x, "a=1");
        for (int left = 5; left >= 0; left--) {
            CHECK.due("undo", x.undo(), left);
            CHECK.due("restored", x.register(0, 0), left + 2);
        }
        CHECK.dueThrow("undo of nothing", STATE, x::undo);
        CHECK.due("the buffer is not saved", x.clearBuffer(), 3);
        x.putRegister(0, 77);
        x.putRegister(0, 78);
        CHECK.due("saved anew", x.undo(), 1);
        CHECK.due("restored", x.register(0, 0), 77);
        AlibiWindow y = ran(EARLY_LOAD, 5);
        long before = y.digest();
        y.run(2);
        y.undo();
        CHECK.due("all is restored", y.digest(), before);
        y.run(2);
        CHECK.due("and goes on as before", y.count(5), 1);
    }

    private static void promise13() {
        AlibiWindow x = ran(EARLY_LOAD, 7);
        dueParts(x, 0, 0, 0, NONE, NONE, 4, 0, 0);
        dueParts(x, 1, 2, 1, 0, 0, 0, 0, 0);
        dueParts(x, 2, 4, NONE, 1, 0, 0, 0, 0);
        dueParts(x, 3, 3, 2, 0, NONE, 0, 3, 1);
        for (int wrong : new int[] {-1, 4, 24, Integer.MIN_VALUE, Integer.MAX_VALUE}) {
            CHECK.dueThrow("instruction(" + wrong + ", 9)", INDEX, () -> x.instruction(wrong, 9));
        }
        for (int wrong : new int[] {-1, 7, Integer.MIN_VALUE, Integer.MAX_VALUE}) {
            CHECK.dueThrow("instruction(0, " + wrong + ")", ARGUMENT, () -> x.instruction(0, wrong));
        }
        CHECK.dueThrow("instruction of no program", INDEX, () -> new AlibiWindow().instruction(0, 0));
    }

    private static void promise14() {
        AlibiWindow x = ran("c=c*c;a=4;[a0]=a;b=[a0]", 2);
        dueEntry(x, 0, 0, 1, 3, NONE, NONE, NONE, NONE, 0, 1);
        dueEntry(x, 1, 1, 1, 1, NONE, NONE, NONE, NONE, 0, 1);
        dueEntry(x, 2, 2, 0, 0, 1, 1, NONE, NONE, 0, 2);
        dueEntry(x, 3, 3, 0, 0, 1, NONE, NONE, NONE, 0, 2);
        x.run(3);
        dueEntry(x, 0, 0, 2, 0, NONE, NONE, NONE, NONE, 0, 1);
        dueEntry(x, 1, 1, 2, 0, NONE, NONE, NONE, NONE, ONE, 1);
        dueEntry(x, 2, 2, 2, 0, 1, 1, 1, NONE, ONE, 1);
        dueEntry(x, 3, 3, 2, 0, 1, NONE, 1, 2, ONE, 1);
        x.run(1);
        dueEntry(x, 0, 2, 2, 0, NONE, NONE, 1, NONE, ONE, 1);
        dueEntry(x, 1, 3, 2, 0, NONE, NONE, 1, 2, ONE, 1);
        for (int wrong : new int[] {-1, 2, Integer.MIN_VALUE, Integer.MAX_VALUE}) {
            CHECK.dueThrow("entry(" + wrong + ", 9)", INDEX, () -> x.entry(wrong, 9));
        }
        for (int wrong : new int[] {-1, 9, Integer.MIN_VALUE, Integer.MAX_VALUE}) {
            CHECK.dueThrow("entry(0, " + wrong + ")", ARGUMENT, () -> x.entry(0, wrong));
        }
    }

    private static void promise15() {
        AlibiWindow x = ran("a=1;b=a+a;c=d+b;d=4", 2);
        CHECK.due("working", x.whyNot(0), 1);
        CHECK.due("p is not ready", x.whyNot(1), 2);
        CHECK.due("q is not ready", x.whyNot(2), 3);
        CHECK.due("it could", x.whyNot(3), 0);
        x.run(1);
        CHECK.due("done", x.whyNot(0), 1);
        AlibiWindow y = ran(EARLY_LOAD, 7);
        y.flush();
        y.run(1);
        CHECK.due("the store could", y.whyNot(0), 0);
        CHECK.due("the load is not trusted", y.whyNot(1), 4);
        y.run(1);
        CHECK.due("the store is working", y.whyNot(1), 4);
        y.set(1, 1);
        y.run(1);
        CHECK.due("the store is done and the load started", y.whyNot(1), 1);
        for (int wrong : new int[] {-1, 4, 8, Integer.MIN_VALUE, Integer.MAX_VALUE}) {
            CHECK.dueThrow("whyNot(" + wrong + ")", INDEX, () -> x.whyNot(wrong));
        }
        CHECK.dueThrow("whyNot of no entry", INDEX, () -> new AlibiWindow().whyNot(0));
    }

    private static void promise16() {
        AlibiWindow x = loaded("a=4;b=a+a;a=b*b;[a0]=b;c=[a0]");
        CHECK.due("a now", x.register(0, 0), 0);
        CHECK.due("a's maker", x.register(0, 1), NONE);
        CHECK.due("a then", x.register(0, 2), Float.floatToIntBits(4.0f));
        CHECK.due("b then", x.register(1, 2), Float.floatToIntBits(2.0f));
        CHECK.due("c then", x.register(2, 2), Float.floatToIntBits(2.0f));
        x.run(2);
        CHECK.due("a's maker", x.register(0, 1), 2);
        CHECK.due("b's maker", x.register(1, 1), 1);
        CHECK.due("c's maker", x.register(2, 1), NONE);
        x.run(98);
        CHECK.due("a's maker", x.register(0, 1), NONE);
        for (int i = 0; i < 8; i++) {
            CHECK.due("nothing is left to do", x.register(i, 2), x.register(i, 0));
        }
        resultsAreLimited();
        for (int wrong : new int[] {-1, 8, Integer.MIN_VALUE, Integer.MAX_VALUE}) {
            CHECK.dueThrow("register(" + wrong + ", 3)", INDEX, () -> x.register(wrong, 3));
        }
        for (int wrong : new int[] {-1, 3, Integer.MIN_VALUE, Integer.MAX_VALUE}) {
            CHECK.dueThrow("register(0, " + wrong + ")", ARGUMENT, () -> x.register(0, wrong));
        }
    }

    private static void resultsAreLimited() {
        AlibiWindow x = loaded("c=a*a;d=a*b;e=b+b;f=a+a;g=a+b");
        x.putRegister(0, MILLION);
        x.putRegister(1, MILLION | 0x80000000);
        for (int i = 0; i < 2; i++) {
            int what = i == 0 ? 2 : 0;
            CHECK.due("product", x.register(2, what), MILLION);
            CHECK.due("product", x.register(3, what), MILLION | 0x80000000);
            CHECK.due("sum", x.register(4, what), MILLION | 0x80000000);
            CHECK.due("sum", x.register(5, what), MILLION);
            CHECK.due("sum", x.register(6, what), 0);
            x.run(50);
        }
    }

    private static void promise17() {
        AlibiWindow x = loaded("a=4;[a9]=a;b=-9;[b0]=a;[b1]=b");
        CHECK.due("cell 10 then", x.cell(10, 1), ONE);
        CHECK.due("cell 14 then", x.cell(14, 1), ONE);
        CHECK.due("cell 15 then", x.cell(15, 1), Float.floatToIntBits(-2.25f));
        CHECK.due("cell 10 now", x.cell(10, 0), 0);
        x.run(50);
        CHECK.due("cell 10", x.cell(10, 0), ONE);
        CHECK.due("cell 14", x.cell(14, 0), ONE);
        CHECK.due("cell 15", x.cell(15, 0), Float.floatToIntBits(-2.25f));
        x.putCell(10, 7);
        CHECK.due("nothing is left to do", x.cell(10, 1), 7);
        for (int wrong : new int[] {-1, 16, Integer.MIN_VALUE, Integer.MAX_VALUE}) {
            CHECK.dueThrow("cell(" + wrong + ", 2)", INDEX, () -> x.cell(wrong, 2));
        }
        for (int wrong : new int[] {-1, 2, Integer.MIN_VALUE, Integer.MAX_VALUE}) {
            CHECK.dueThrow("cell(0, " + wrong + ")", ARGUMENT, () -> x.cell(0, wrong));
        }
    }

    private static void promise18() {
        AlibiWindow x = ran(EARLY_LOAD, 7);
        dueNumbers(x, "in the middle", 7, 4, 2, 4, 2, 1, 1, 2, 1, 1, 0, 2);
        x.run(50);
        dueNumbers(x, "at the end", 57, 4, 0, 4, 4, 1, 1, 4, 2, 1, 1, 3);
        x.again();
        x.run(50);
        dueNumbers(x, "once more", 107, 4, 0, 4, 4, 2, 2, 8, 4, 2, 1, 5);
        for (int wrong : new int[] {-1, 12, Integer.MIN_VALUE, Integer.MAX_VALUE}) {
            CHECK.dueThrow("count(" + wrong + ")", ARGUMENT, () -> x.count(wrong));
        }
    }

    private static void promise19() {
        AlibiWindow x = new AlibiWindow();
        CHECK.due("window", x.setting(0), 4);
        CHECK.due("width", x.setting(1), 2);
        CHECK.due("retiring", x.setting(2), 2);
        x.set(1, 3);
        CHECK.due("width", x.setting(1), 3);
        for (int wrong : new int[] {-1, 3, Integer.MIN_VALUE, Integer.MAX_VALUE}) {
            CHECK.dueThrow("setting(" + wrong + ")", INDEX, () -> x.setting(wrong));
        }
    }

    private static void promise20() {
        AlibiWindow x = loaded(EARLY_LOAD);
        CHECK.due("retired in 4", x.ifRun(4, 0), 1);
        CHECK.due("replays in 6", x.ifRun(6, 1), 0);
        CHECK.due("replays in 7", x.ifRun(7, 1), 1);
        CHECK.due("entries behind 2", x.ifRun(2, 2), 4);
        CHECK.due("entries behind 100", x.ifRun(100, 2), 0);
        x.run(7);
        CHECK.due("replays from now on", x.ifRun(100, 1), 0);
        CHECK.due("retired from now on", x.ifRun(100, 0), 2);
        CHECK.due("nothing is changed", x.count(0), 7);
        CHECK.due("nothing is saved", x.count(11), 2);
        for (int wrong : new int[] {-1, 0, 101, Integer.MIN_VALUE, Integer.MAX_VALUE}) {
            CHECK.dueThrow("ifRun(" + wrong + ", 0)", ARGUMENT, () -> x.ifRun(wrong, 0));
        }
        for (int wrong : new int[] {-1, 3, Integer.MIN_VALUE, Integer.MAX_VALUE}) {
            CHECK.dueThrow("ifRun(1, " + wrong + ")", ARGUMENT, () -> x.ifRun(1, wrong));
        }
    }

    private static void promise21() {
        AlibiWindow x = loaded(EARLY_LOAD);
        for (int left = 10; left > 0; left--) {
            CHECK.due("cyclesLeft", x.cyclesLeft(), left);
            x.run(1);
        }
        CHECK.due("cyclesLeft", x.cyclesLeft(), 0);
        x.run(1);
        CHECK.due("cyclesLeft", x.cyclesLeft(), 0);
        CHECK.due("cyclesLeft of no program", new AlibiWindow().cyclesLeft(), 0);
    }

    private static void promise22() {
        AlibiWindow x = loaded("a=5;b=6");
        CHECK.due("the window", x.bestWindow(0), 2);
        CHECK.due("its cycles", x.bestWindow(1), 4);
        CHECK.due("its replays", x.bestWindow(2), 0);
        x.run(100);
        CHECK.due("begun anew", x.bestWindow(1), 4);
        CHECK.due("the window stays as it is", x.setting(0), 4);
        x.set(1, 1);
        CHECK.due("with the width as it is", x.bestWindow(1), 5);
        AlibiWindow y = ran(EARLY_LOAD, 7);
        CHECK.due("the window", y.bestWindow(0), 3);
        CHECK.due("its cycles", y.bestWindow(1), 8);
        CHECK.due("its replays, and not those before", y.bestWindow(2), 0);
        CHECK.due("nothing is changed", y.instruction(3, 5), 3);
        bestWindowWithReplays();
        AlibiWindow empty = new AlibiWindow();
        CHECK.due("the window of no program", empty.bestWindow(0), 1);
        CHECK.due("its cycles", empty.bestWindow(1), 0);
        for (int wrong : new int[] {-1, 3, Integer.MIN_VALUE, Integer.MAX_VALUE}) {
            CHECK.dueThrow("bestWindow(" + wrong + ")", ARGUMENT, () -> x.bestWindow(wrong));
        }
    }

    private static void bestWindowWithReplays() {
        AlibiWindow x = loaded("a=b*c;[a0]=d;e=[b0];f=e+e;[c1]=f;g=[d1];h=[a0];[b0]=g;a=[b0];b=a*a;[b2]=a;c=[a2]");
        x.set(1, 4);
        x.set(2, 4);
        for (int i = 0; i < 2; i++) {
            CHECK.due("the window", x.bestWindow(0), 5);
            CHECK.due("its cycles", x.bestWindow(1), 20);
            CHECK.due("its replays", x.bestWindow(2), 3);
            x.run(12);
            CHECK.holds("distrust and replays matter not", x.count(5) > 0);
        }
    }

    private static void promise23() {
        CHECK.due("worstLoad of no program", new AlibiWindow().worstLoad(), NONE);
        AlibiWindow x = ran(EARLY_LOAD, 6);
        CHECK.due("no replay", x.worstLoad(), NONE);
        x.run(1);
        CHECK.due("a replay", x.worstLoad(), 3);
        x.again();
        CHECK.due("begun anew", x.worstLoad(), NONE);
        AlibiWindow two = loaded(EARLY_LOAD + ";" + EARLY_LOAD);
        two.run(10);
        two.flush();
        two.run(100);
        CHECK.due("replayed once", two.instruction(3, 6), 1);
        CHECK.due("replayed once", two.instruction(7, 6), 1);
        CHECK.due("of several the lowest", two.worstLoad(), 3);
    }

    private static void promise24() {
        CHECK.due("earlyShare of nothing", Double.doubleToLongBits(new AlibiWindow().earlyShare()), 0);
        AlibiWindow x = ran(EARLY_LOAD, 5);
        CHECK.holds("earlyShare is 1", x.earlyShare() == 1.0);
        x.run(5);
        CHECK.holds("earlyShare is 1 / 2", x.earlyShare() == 0.5);
        type(x, "b=[a0]");
        x.load();
        x.run(10);
        CHECK.holds("earlyShare is 1 / 3", x.earlyShare() == 1.0 / 3);
    }

    private static void promise25() {
        AlibiWindow empty = new AlibiWindow();
        CHECK.due("digest of a new object", empty.digest(), digestOf(empty, ""));
        for (int cycles = 1; cycles <= 12; cycles++) {
            AlibiWindow x = ran(EARLY_LOAD, cycles);
            String text = "a=;".substring(0, cycles % 4);
            type(x, text);
            CHECK.due("digest", x.digest(), digestOf(x, text));
        }
        AlibiWindow x = ran(EARLY_LOAD, 7);
        long before = x.digest();
        CHECK.due("digest changes nothing", x.digest(), before);
        x.append('a');
        CHECK.holds("digest tells of the buffer", x.digest() != before);
    }
}
