import java.math.BigInteger;

/** The sentences on what would be (promises 20 to 25) that name a boundary case, each by itself. */
public final class ForecastBoundariesTest extends Runs {
    private static final String EIGHT_PRODUCTS = "a=a*a;b=b*b;c=c*c;d=d*d;e=e*e;f=f*f;g=g*g;h=h*h";

    public static void main(String[] args) {
        nothingIsChanged();
        limitOfCyclesDoesNotMatter();
        ifRunTakes1To100Cycles();
        ifRunTellsThree();
        ifRunTellsTheRetired();
        ifRunTellsTheReplays();
        ifRunTellsTheEntries();
        ifRunTellsWhatRunDoes();
        noCyclesAreLeft();
        leastCyclesAreLeft();
        moreThan100CyclesAreLeft();
        bestWindowTellsThree();
        ofSeveralWindowsTheLeast();
        windowsAre1To8();
        bestWindowBeginsAnew();
        bestWindowTakesTheValuesOfNow();
        bestWindowTakesTheOtherSettings();
        bestWindowTellsItsReplays();
        bestWindowOfNoProgram();
        noWorstLoad();
        worstLoadOfSeveral();
        worstLoadIsTheFirstOneReplayed();
        earlyShareOfNoLoad();
        earlyShares();
        digestOfANewObject();
        digestOverflows();
        digestOfTheGreatestState();
        digestTellsOfTheBuffer();
        digestTellsOfEachValue();
        CHECK.end();
    }

    // ---- the heading

    private static void nothingIsChanged() {
        CHECK.sentence("what would be; nothing is changed");
        AlibiWindow x = ran(EARLY_LOAD, 6);
        AlibiWindow twin = ran(EARLY_LOAD, 6);
        type(x, "a=1");
        type(twin, "a=1");
        for (int what = 0; what <= 2; what++) {
            x.ifRun(100, what);
            x.bestWindow(what);
        }
        x.cyclesLeft();
        x.worstLoad();
        x.earlyShare();
        x.digest();
        CHECK.due("saved states", x.count(11), 2);
        CHECK.due("what the calls tell", digestOf(x, "a=1"), digestOf(twin, "a=1"));
        for (int cycles = 0; cycles < 6; cycles++) {
            CHECK.due("digest", x.digest(), twin.digest());
            x.run(1);
            twin.run(1);
        }
        for (int left = 5; left >= 0; left--) {
            CHECK.due("undo", x.undo(), twin.undo());
            CHECK.due("digest behind undo", x.digest(), twin.digest());
        }
    }

    private static void limitOfCyclesDoesNotMatter() {
        CHECK.sentence("and the limit of 10000 cycles does not matter");
        AlibiWindow x = inCycle(10000);
        type(x, EARLY_LOAD);
        x.load();
        CHECK.dueThrow("run(1)", STATE, () -> x.run(1));
        CHECK.due("retired in 100", x.ifRun(100, 0), 4);
        CHECK.due("replays in 100", x.ifRun(100, 1), 1);
        CHECK.due("entries behind 1", x.ifRun(1, 2), 2);
        CHECK.due("cyclesLeft", x.cyclesLeft(), 10);
        CHECK.due("cycles of the best window", x.bestWindow(1), 8);
        CHECK.due("digest", x.digest(), digestOf(x, ""));
        CHECK.due("the number of the cycle", x.count(0), 10000);
    }

    // ---- promise 20

    private static void ifRunTakes1To100Cycles() {
        CHECK.sentence("Promise 20: IllegalArgumentException if cycles is out of range");
        AlibiWindow x = loaded(EARLY_LOAD);
        CHECK.dueRange("ifRun(.., 0)", 1, 100, ARGUMENT, n -> x.ifRun(n, 0));
        AlibiWindow none = new AlibiWindow();
        CHECK.dueRange("ifRun(.., 1) without a program", 1, 100, ARGUMENT, n -> none.ifRun(n, 1));
    }

    private static void ifRunTellsThree() {
        CHECK.sentence("Promise 20: IllegalArgumentException if what is out of range");
        AlibiWindow x = loaded(EARLY_LOAD);
        CHECK.dueRange("ifRun(1, ..)", 0, 2, ARGUMENT, n -> x.ifRun(1, n));
        CHECK.dueThrow("ifRun(0, 3)", ARGUMENT, () -> x.ifRun(0, 3));
        CHECK.dueThrow("ifRun(101, -1)", ARGUMENT, () -> x.ifRun(101, -1));
    }

    private static void ifRunTellsTheRetired() {
        CHECK.sentence("Promise 20: 0: how many instructions would be retired in them");
        AlibiWindow x = loaded(EARLY_LOAD);
        int[] retired = {0, 0, 0, 1, 1, 1, 2, 3, 3, 4, 4};
        for (int cycles = 1; cycles <= retired.length; cycles++) {
            CHECK.due("in " + cycles, x.ifRun(cycles, 0), retired[cycles - 1]);
        }
        x.run(7);
        CHECK.due("those before do not count", x.ifRun(100, 0), 2);
        x.run(3);
        CHECK.due("finished", x.ifRun(100, 0), 0);
    }

    private static void ifRunTellsTheReplays() {
        CHECK.sentence("Promise 20: 1: how many replays there would be");
        AlibiWindow x = loaded(EARLY_LOAD);
        CHECK.due("in 6", x.ifRun(6, 1), 0);
        CHECK.due("in 7", x.ifRun(7, 1), 1);
        CHECK.due("in 100", x.ifRun(100, 1), 1);
        x.run(6);
        CHECK.due("in the next one", x.ifRun(1, 1), 1);
        x.run(1);
        CHECK.due("those before do not count", x.ifRun(100, 1), 0);
    }

    private static void ifRunTellsTheEntries() {
        CHECK.sentence("Promise 20: 2: how many entries there would be then");
        AlibiWindow x = wide(EIGHT_PRODUCTS);
        int[] entries = {4, 8, 8, 8, 8, 4, 0, 0};
        for (int cycles = 1; cycles <= entries.length; cycles++) {
            CHECK.due("behind " + cycles, x.ifRun(cycles, 2), entries[cycles - 1]);
        }
        x.run(2);
        CHECK.due("not those of now", x.ifRun(5, 2), 0);
        CHECK.due("without a program", new AlibiWindow().ifRun(100, 2), 0);
    }

    private static void ifRunTellsWhatRunDoes() {
        CHECK.sentence("Promise 20: Tells what cycles would do");
        for (int cycles = 1; cycles <= 12; cycles++) {
            AlibiWindow x = wideRan(TWO_STORES + ";d=c+c", 3);
            int retired = x.ifRun(cycles, 0);
            int replays = x.ifRun(cycles, 1);
            int entries = x.ifRun(cycles, 2);
            CHECK.due("retired in " + cycles, retired, x.run(cycles));
            CHECK.due("replays in " + cycles, replays, x.count(5));
            CHECK.due("entries behind " + cycles, entries, x.count(2));
        }
    }

    // ---- promise 21

    private static void noCyclesAreLeft() {
        CHECK.sentence("Promise 21: 0 if it is finished now");
        AlibiWindow none = new AlibiWindow();
        CHECK.due("without a program", none.cyclesLeft(), 0);
        none.run(5);
        CHECK.due("without a program", none.cyclesLeft(), 0);
        AlibiWindow x = ran("a=1", 3);
        CHECK.due("done, not retired", x.cyclesLeft(), 1);
        x.run(1);
        CHECK.due("retired", x.cyclesLeft(), 0);
        x.run(100);
        CHECK.due("retired long ago", x.cyclesLeft(), 0);
        x.again();
        CHECK.due("begun anew", x.cyclesLeft(), 4);
    }

    private static void leastCyclesAreLeft() {
        CHECK.sentence("Promise 21: the least number of cycles behind which it would be finished");
        AlibiWindow x = wide(TWO_STORES);
        for (int left = x.cyclesLeft(); left > 0; left--) {
            CHECK.due("cyclesLeft", x.cyclesLeft(), left);
            CHECK.due("not finished", x.count(10), 0);
            x.run(1);
        }
        CHECK.due("finished", x.count(10), 1);
        AlibiWindow flushed = ran("a=1", 3);
        flushed.flush();
        CHECK.due("issued anew", flushed.cyclesLeft(), 4);
    }

    private static void moreThan100CyclesAreLeft() {
        CHECK.sentence("Promise 21: Tells how long the program will take: longer than one call of run takes");
        AlibiWindow x = loaded(times(20, "a=a*a"));
        x.set(0, 1);
        CHECK.due("20 products, one by one", x.cyclesLeft(), 101);
        CHECK.due("retired in 100", x.ifRun(100, 0), 19);
        x.run(1);
        CHECK.due("one cycle less", x.cyclesLeft(), 100);
        CHECK.due("retired in 100", x.ifRun(100, 0), 20);
    }

    // ---- promise 22

    private static void dueBest(AlibiWindow x, int window, int cycles, int replays) {
        CHECK.due("the window", x.bestWindow(0), window);
        CHECK.due("its cycles", x.bestWindow(1), cycles);
        CHECK.due("its replays", x.bestWindow(2), replays);
    }

    private static void bestWindowTellsThree() {
        CHECK.sentence("Promise 22: IllegalArgumentException if what is not 0 to 2");
        AlibiWindow x = loaded(EARLY_LOAD);
        CHECK.dueRange("bestWindow", 0, 2, ARGUMENT, x::bestWindow);
        CHECK.dueRange("bestWindow without a program", 0, 2, ARGUMENT, new AlibiWindow()::bestWindow);
    }

    private static void ofSeveralWindowsTheLeast() {
        CHECK.sentence("Promise 22: of several the least one");
        dueBest(loaded("a=1"), 1, 4, 0);
        dueBest(loaded("a=1;b=2"), 2, 4, 0);
        dueBest(loaded("a=a*a;a=a*a"), 2, 9, 0);
    }

    private static void windowsAre1To8() {
        CHECK.sentence("Promise 22: the window, 1 to 8, with which it would be finished in the fewest cycles");
        dueBest(wide("a=1"), 1, 4, 0);
        dueBest(wide(EIGHT_PRODUCTS), 8, 7, 0);
        AlibiWindow x = wide(EIGHT_PRODUCTS);
        x.set(0, 1);
        dueBest(x, 8, 7, 0);
        CHECK.due("with the window as it is", x.cyclesLeft(), 41);
    }

    private static void bestWindowBeginsAnew() {
        CHECK.sentence("Promise 22: it would be begun anew as by again()");
        AlibiWindow x = loaded(EARLY_LOAD);
        dueBest(x, 3, 8, 0);
        for (int cycle = 1; cycle <= 12; cycle++) {
            x.run(1);
            dueBest(x, 3, 8, 0);
        }
        CHECK.due("finished", x.count(10), 1);
        x.flush();
        dueBest(x, 3, 8, 0);
    }

    private static void bestWindowTakesTheValuesOfNow() {
        CHECK.sentence("Promise 22: with the registers and the memory as they are now");
        String text = "b=b*b;[b0]=a;c=[d0];e=c*c;f=e*e;[h0]=f";
        AlibiWindow x = wide(text);
        CHECK.due("replays if the cells are the same", x.ifRun(100, 1), 1);
        int cycles = x.bestWindow(1);
        x.putRegister(3, ONE);
        CHECK.due("replays if they are not", x.ifRun(100, 1), 0);
        CHECK.holds("fewer cycles without a replay", x.bestWindow(1) < cycles);
        AlibiWindow y = wide("b=[h0];" + text);
        int same = y.bestWindow(1);
        y.putCell(0, bits(3.0f));
        CHECK.holds("fewer cycles, as the cell is another", y.bestWindow(1) < same);
    }

    private static void bestWindowTakesTheOtherSettings() {
        CHECK.sentence("Promise 22: with each window and the other settings as they are");
        AlibiWindow x = wide(EIGHT_PRODUCTS);
        dueBest(x, 8, 7, 0);
        x.set(2, 1);
        dueBest(x, 5, 13, 0);
        x.set(2, 4);
        x.set(1, 1);
        dueBest(x, 5, 13, 0);
        x.set(1, 4);
        dueBest(x, 8, 7, 0);
    }

    private static void bestWindowTellsItsReplays() {
        CHECK.sentence("Promise 22: 2: the replays");
        AlibiWindow x = loaded("a=b*c;[a0]=d;e=[b0];f=e+e;[c1]=f;g=[d1];h=[a0];[b0]=g;a=[b0];b=a*a;[b2]=a;c=[a2]");
        x.set(1, 4);
        x.set(2, 4);
        dueBest(x, 5, 20, 3);
        x.run(12);
        CHECK.holds("replays so far", x.count(5) > 0);
        dueBest(x, 5, 20, 3);
    }

    private static void bestWindowOfNoProgram() {
        CHECK.sentence("Promise 22: of several the least one: each is finished at once");
        AlibiWindow x = new AlibiWindow();
        dueBest(x, 1, 0, 0);
        x.set(0, 8);
        dueBest(x, 1, 0, 0);
    }

    // ---- promise 23

    private static void noWorstLoad() {
        CHECK.sentence("Promise 23: NONE if there is none; the greatest instruction(.., 6) above 0");
        CHECK.due("without a program", new AlibiWindow().worstLoad(), NONE);
        CHECK.due("without a LOAD", ran("a=1;[b0]=a", 10).worstLoad(), NONE);
        AlibiWindow x = loaded(EARLY_LOAD);
        CHECK.due("not begun", x.worstLoad(), NONE);
        x.run(6);
        CHECK.due("not replayed", x.worstLoad(), NONE);
        x.run(1);
        CHECK.due("replayed", x.worstLoad(), 3);
        x.run(10);
        CHECK.due("finished", x.worstLoad(), 3);
        x.flush();
        CHECK.due("flushed", x.worstLoad(), 3);
        x.again();
        CHECK.due("begun anew", x.worstLoad(), NONE);
    }

    private static void worstLoadOfSeveral() {
        CHECK.sentence("Promise 23: of several the lowest number");
        AlibiWindow x = loaded(EARLY_LOAD + ";" + EARLY_LOAD);
        x.run(10);
        x.flush();
        CHECK.due("the only one", x.worstLoad(), 3);
        x.run(100);
        CHECK.due("replays of 3", x.instruction(3, 6), 1);
        CHECK.due("replays of 7", x.instruction(7, 6), 1);
        CHECK.due("the lowest number", x.worstLoad(), 3);
    }

    private static void worstLoadIsTheFirstOneReplayed() {
        CHECK.sentence("Promise 23: the LOAD with the greatest instruction(.., 6)");
        AlibiWindow x = wideRan("b=b*b;[b0]=a;c=[d9];e=[d0];f=[d0]", 20);
        CHECK.due("replays", x.count(5), 1);
        CHECK.due("neither the one ahead nor the one behind", x.worstLoad(), 3);
        AlibiWindow last = wideRan("b=b*b;[b0]=a;c=[d0]", 20);
        CHECK.due("the last instruction", last.worstLoad(), 2);
    }

    // ---- promise 24

    private static void dueShare(AlibiWindow x, double share) {
        CHECK.due("the bits of earlyShare", Double.doubleToLongBits(x.earlyShare()), Double.doubleToLongBits(share));
    }

    private static void earlyShareOfNoLoad() {
        CHECK.sentence("Promise 24: 0.0 if that is 0");
        dueShare(new AlibiWindow(), 0.0);
        dueShare(ran(EARLY_LOAD, 4), 0.0);
        dueShare(ran("a=1;[b0]=a", 20), 0.0);
    }

    private static void earlyShares() {
        CHECK.sentence("Promise 24: Returns count(9), as a double, divided by count(8)");
        AlibiWindow x = ran(EARLY_LOAD, 5);
        dueShare(x, 1.0);
        x.run(5);
        dueShare(x, 0.5);
        dueShare(ran("a=[b0]", 10), 0.0);
        AlibiWindow y = ran("c=[a0];c=[a1];c=[a2]", 20);
        type(y, EARLY_LOAD);
        y.load();
        y.run(5);
        dueShare(y, 0.25);
        y.run(5);
        dueShare(y, 0.2);
        y.undo();
        dueShare(y, 0.25);
    }

    // ---- promise 25

    private static void digestOfANewObject() {
        CHECK.sentence("Promise 25: The hash starts at 2371");
        long hash = 2371;
        int[] values = new int[81];
        values[10] = 1;
        values[12] = 4;
        values[13] = 2;
        values[14] = 2;
        for (int register = 0; register < 8; register++) {
            values[15 + 3 * register + 1] = -1;
        }
        values[75] = 1;
        values[78] = -1;
        for (int value : values) {
            hash = 31 * hash + value;
        }
        CHECK.due("digest", new AlibiWindow().digest(), hash);
    }

    private static void digestOverflows() {
        CHECK.sentence("Promise 25: in long arithmetic with overflow");
        AlibiWindow x = ran("a=-99;b=a*a;[c0]=b", 4);
        BigInteger hash = BigInteger.valueOf(2371);
        for (long value : digestedOf(x, "")) {
            hash = hash.multiply(BigInteger.valueOf(31)).add(BigInteger.valueOf(value));
        }
        CHECK.holds("the sum goes beyond a long", hash.bitLength() > 500);
        CHECK.due("digest", x.digest(), hash.longValue());
    }

    private static void digestOfTheGreatestState() {
        CHECK.sentence("Promise 25: for each instruction, for each entry, the buffer and each of its character codes");
        AlibiWindow x = wide(times(17, "a=[a0]"));
        x.run(3);
        String text = times(30, "a=1") + ";";
        type(x, text);
        CHECK.due("entries", x.count(2), 8);
        CHECK.due("digest of eight entries, a full buffer", x.digest(), digestOf(x, text));
        for (int cycles = 1; cycles <= 8; cycles++) {
            AlibiWindow y = wideRan(times(24, "a=1"), cycles);
            CHECK.due("digest of 24 instructions", y.digest(), digestOf(y, ""));
        }
    }

    private static void digestTellsOfTheBuffer() {
        CHECK.sentence("Promise 25: the length of the buffer and each of its character codes");
        StringBuilder text = new StringBuilder();
        AlibiWindow x = new AlibiWindow();
        for (char sign = 33; sign <= 126; sign++) {
            x.append(sign);
            text.append(sign);
            CHECK.due("digest of " + text, x.digest(), digestOf(new AlibiWindow(), text.toString()));
        }
        x.clearBuffer();
        CHECK.due("digest of a cleared buffer", x.digest(), new AlibiWindow().digest());
    }

    private static void digestTellsOfEachValue() {
        CHECK.sentence("Promise 25: For each value v of the following list, in order, the hash becomes 31 * hash + v");
        for (int cycles = 1; cycles <= 18; cycles++) {
            AlibiWindow x = wide(EARLY_LOAD + ";d=c*c;[d3]=d;e=[a2]");
            x.putRegister(6, MILLION | SIGN);
            x.putCell(15, SIGN);
            x.run(cycles);
            CHECK.due("digest in cycle " + cycles, x.digest(), digestOf(x, ""));
        }
    }
}
