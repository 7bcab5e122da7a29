/** The sentences of the Terms on the window and on a cycle that name a boundary case, each by itself. */
public final class CycleBoundariesTest extends Runs {
    private static final int WAITING = 0;
    private static final int WORKING = 1;
    private static final int DONE = 2;

    private static final String EIGHT_SETS = "a=1;b=2;c=3;d=4;e=5;f=6;g=7;h=8";
    private static final String EIGHT_PRODUCTS = "a=a*a;b=b*b;c=c*c;d=d*d;e=e*e;f=f*f;g=g*g;h=h*h";
    // A replay in cycle 6: done ahead of the load is 2; behind it 4 is done, 5 is working, 6 is waiting for 5.
    private static final String REPLAY_IN_6 = "b=b*b;[b0]=c;e=1;f=[d0];g=2;h=h*h;a=h+h";

    public static void main(String[] args) {
        cycleIsZeroAtFirst();
        entriesAreInOrder();
        issuedEntriesWait();
        namesAreOfTheLatestMaker();
        nameIsNotOfItself();
        storeMakesNoRegister();
        setAddMulAndLoadMakeTheirRegister();
        retiredInstructionsGiveNoName();
        operandIsReadyWhenItsMakerIsDone();
        operandIsReadyWhenItsMakerWasRetired();
        cyclesOfWork();
        retiredInACycle();
        firstEntryMustBeDone();
        distrustOfZeroStays();
        distrustBecomesOneLess();
        workBecomesOneLess();
        loadTakesTheLatestStore();
        loadLeavesStoresBehindIt();
        loadLeavesStoresOfOtherCells();
        loadTakesMemoryOfRetiredStores();
        loadTakesMemoryAheadOfAnOpenStore();
        loadTakesAStoreOfTheSameCycle();
        storeBreaksNoAlibi();
        storeBreaksALesserAlibi();
        storeLeavesAGreaterAlibi();
        storeLeavesLoadsThatAreNotDone();
        storeLeavesOtherCells();
        onlyTheFirstLoadIsReplayed();
        allBehindWaitAgain();
        replayedWorkIsLost();
        startedInACycle();
        entriesThatCannotStartTakeNoPlace();
        distrustedLoadWaitsForStoresAhead();
        distrustedLoadDoesNotWaitForStoresBehind();
        trustedLoadDoesNotWait();
        issuedUpToTheWindow();
        issuedUpToTheWidth();
        issuedUpToTheEnd();
        retiringMakesRoomForIssuing();
        entriesStayInASmallerWindow();
        finishedWhenAllAreRetired();
        CHECK.end();
    }

    private static void cycleIsZeroAtFirst() {
        CHECK.sentence("There is a number of the cycle, at first 0. The number of the cycle becomes 1 more");
        AlibiWindow x = new AlibiWindow();
        CHECK.due("at first", x.count(0), 0);
        x.run(1);
        CHECK.due("behind a cycle", x.count(0), 1);
        x.run(100);
        CHECK.due("behind 100 more", x.count(0), 101);
    }

    private static void entriesAreInOrder() {
        CHECK.sentence("entries for instructions that were issued and are not retired, in the order of their numbers");
        AlibiWindow x = wide(EIGHT_SETS);
        dueOfEntries(x, 0);
        x.run(1);
        dueOfEntries(x, 0, 0, 1, 2, 3);
        x.run(1);
        dueOfEntries(x, 0, 0, 1, 2, 3, 4, 5, 6, 7);
        x.run(2);
        dueOfEntries(x, 0, 4, 5, 6, 7);
        x.run(1);
        dueOfEntries(x, 0);
    }

    private static void issuedEntriesWait() {
        CHECK.sentence("When an instruction is issued, its entry is waiting");
        AlibiWindow x = wideRan("a=1;b=c+d;b=[c0];[d0]=c;e=2", 1);
        dueOfEntries(x, 1, WAITING, WAITING, WAITING, WAITING);
        x.run(1);
        dueOfEntries(x, 1, WORKING, WORKING, WORKING, WORKING, WAITING);
    }

    private static void namesAreOfTheLatestMaker() {
        CHECK.sentence("the number of the latest instruction ahead of it in the window that makes this register, or NONE");
        AlibiWindow x = wideRan("a=1;a=2;b=a+c;a=3;[a0]=b;d=[a0]", 2);
        dueOfEntries(x, 3, NONE, NONE, 1, NONE, 3, 3);
        dueOfEntries(x, 4, NONE, NONE, NONE, NONE, 2, NONE);
        x.run(30);
        CHECK.due("b of the latest a ahead", x.register(1, 0), bits(0.5f));
    }

    private static void nameIsNotOfItself() {
        CHECK.sentence("the latest instruction ahead of it");
        AlibiWindow x = wide("a=a+a;a=a*a;a=[a0]");
        x.putRegister(0, ONE);
        x.putCell(4, 77);
        x.run(1);
        dueOfEntries(x, 3, NONE, 0, 1);
        dueOfEntries(x, 4, NONE, 0, NONE);
        x.run(20);
        CHECK.due("a", x.register(0, 0), 77);
    }

    private static void storeMakesNoRegister() {
        CHECK.sentence("SET, ADD, MUL and LOAD make r: STORE makes none");
        AlibiWindow x = wideRan("[a0]=b;c=a+b;[a0]=a", 1);
        dueOfEntries(x, 3, NONE, NONE, NONE);
        dueOfEntries(x, 4, NONE, NONE, NONE);
        CHECK.due("a's maker", x.register(0, 1), NONE);
        CHECK.due("b's maker", x.register(1, 1), NONE);
    }

    private static void setAddMulAndLoadMakeTheirRegister() {
        CHECK.sentence("SET, ADD, MUL and LOAD make r");
        AlibiWindow x = wideRan("a=1;b=e+e;c=e*e;d=[e0];f=a+b;f=c*d", 2);
        dueOfEntries(x, 3, NONE, NONE, NONE, NONE, 0, 2);
        dueOfEntries(x, 4, NONE, NONE, NONE, NONE, 1, 3);
    }

    private static void retiredInstructionsGiveNoName() {
        CHECK.sentence("or NONE if there is none in the window; then the operand is what the register is now");
        AlibiWindow x = loaded("a=1;b=a+a");
        x.set(0, 1);
        x.run(4);
        dueEntry(x, 0, 1, WAITING, 0, NONE, NONE);
        x.run(3);
        CHECK.due("b", x.register(1, 0), bits(0.5f));
    }

    private static void operandIsReadyWhenItsMakerIsDone() {
        CHECK.sentence("An operand with a name is ready when that entry is done");
        AlibiWindow x = wideRan("a=a*a;b=a+c;b=c+a;[a0]=c;[c0]=a;d=[a0]", 4);
        dueOfEntries(x, 8, 1, 2, 3, 2, 3, 2);
        x.set(1, 1);
        x.run(1);
        dueOfEntries(x, 1, DONE, WORKING, WAITING, WAITING, WAITING, WAITING);
        dueOfEntries(x, 8, 1, 1, 0, 0, 0, 0);
    }

    private static void operandIsReadyWhenItsMakerWasRetired() {
        CHECK.sentence("or was retired; its value is what that instruction made");
        AlibiWindow x = wideRan("a=1;b=b*b;c=c*c;d=a+a", 1);
        x.set(1, 1);
        x.run(2);
        dueOfEntries(x, 3, NONE, NONE, NONE, 0);
        x.run(1);
        dueOfEntries(x, 0, 1, 2, 3);
        dueOfEntries(x, 3, NONE, NONE, NONE);
        dueOfEntries(x, 8, 1, 1, 0);
        x.run(10);
        CHECK.due("d", x.register(3, 0), bits(0.5f));
    }

    private static void cyclesOfWork() {
        CHECK.sentence("The instructions need these cycles of work: SET 1, ADD 1, MUL 3, LOAD 2, STORE 1");
        dueWork("a=1", 1);
        dueWork("a=b+c", 1);
        dueWork("a=b*c", 3);
        dueWork("a=[b0]", 2);
        dueWork("[b0]=a", 1);
    }

    private static void dueWork(String text, int work) {
        AlibiWindow x = ran(text, 2);
        for (int left = work; left > 0; left--) {
            CHECK.due(text + ": the work that is left", x.entry(0, 2), left);
            CHECK.due(text + ": working", x.entry(0, 1), WORKING);
            x.run(1);
        }
        CHECK.due(text + ": no work is left", x.entry(0, 2), 0);
        CHECK.due(text + ": done", x.entry(0, 1), DONE);
        CHECK.due(text + ": retired in the next cycle", x.run(1), 1);
    }

    private static void retiredInACycle() {
        CHECK.sentence("as long as fewer than setting 2 entries were retired in this cycle");
        for (int most = 1; most <= 4; most++) {
            AlibiWindow x = wideRan("a=1;b=2;c=3;d=4", 3);
            x.set(2, most);
            CHECK.due("four are done, at most " + most, x.run(1), most);
            AlibiWindow y = wideRan("a=1;b=2;c=c*c", 3);
            y.set(2, most);
            CHECK.due("two are done, at most " + most, y.run(1), Math.min(most, 2));
        }
    }

    private static void firstEntryMustBeDone() {
        CHECK.sentence("as long as the first entry is done");
        AlibiWindow x = wideRan("a=a*a;b=2;c=3", 4);
        dueOfEntries(x, 1, WORKING, DONE, DONE);
        CHECK.due("none is retired when the first one comes to be done", x.run(1), 0);
        dueOfEntries(x, 1, DONE, DONE, DONE);
        CHECK.due("all are retired in the next cycle", x.run(1), 3);
    }

    private static void distrustOfZeroStays() {
        CHECK.sentence("If it is a LOAD whose distrust is above 0, its distrust becomes 1 less; at first 0");
        AlibiWindow x = loaded("a=[b0];c=1");
        CHECK.due("at first", x.instruction(0, 5), 0);
        x.run(20);
        CHECK.due("behind its retiring", x.instruction(0, 5), 0);
        CHECK.due("of what is no LOAD", x.instruction(1, 5), 0);
    }

    private static void distrustBecomesOneLess() {
        CHECK.sentence("its distrust becomes 3; when it is retired, its distrust becomes 1 less");
        AlibiWindow x = wideRan(EARLY_LOAD, 6);
        CHECK.due("ahead of the replay", x.instruction(3, 5), 0);
        x.run(1);
        CHECK.due("replayed", x.instruction(3, 5), 3);
        x.run(2);
        CHECK.due("done", x.entry(0, 1), DONE);
        CHECK.due("done", x.instruction(3, 5), 3);
        x.run(1);
        CHECK.due("retired", x.instruction(3, 5), 2);
        x.run(10);
        CHECK.due("later", x.instruction(3, 5), 2);
    }

    private static void workBecomesOneLess() {
        CHECK.sentence("for each working entry: its work that is left becomes 1 less. If that is 0 then, the entry is done");
        AlibiWindow x = wideRan("a=a*a;b=[c0];d=1;e=d+d", 2);
        dueOfEntries(x, 2, 3, 2, 1, 0);
        dueOfEntries(x, 1, WORKING, WORKING, WORKING, WAITING);
        x.run(1);
        dueOfEntries(x, 2, 2, 1, 0, 1);
        dueOfEntries(x, 1, WORKING, WORKING, DONE, WORKING);
        x.run(1);
        dueOfEntries(x, 2, 1, 0, 0, 0);
        dueOfEntries(x, 1, WORKING, DONE, DONE, DONE);
    }

    private static void loadTakesTheLatestStore() {
        CHECK.sentence("takes the value of the latest STORE ahead of it in the window that is done and has the same cell");
        AlibiWindow x = wide("a=1;b=2;[c0]=a;[c0]=b;d=[c0]");
        x.set(2, 1);
        x.run(5);
        dueOfEntries(x, 1, DONE, DONE, DONE);
        dueEntry(x, 2, 4, DONE, 0, NONE, NONE, 0, 3, bits(0.5f), 1);
    }

    private static void loadLeavesStoresBehindIt() {
        CHECK.sentence("the latest STORE ahead of it; the LOADs behind it");
        AlibiWindow x = wide("d=[c0];[c0]=a");
        x.putRegister(0, ONE);
        x.run(3);
        dueOfEntries(x, 1, WORKING, DONE);
        x.run(1);
        dueEntry(x, 0, 0, DONE, 0, NONE, NONE, 0, NONE, 0, 1);
        AlibiWindow y = wide("d=[c0];b=b+c;[c0]=a;e=[c0]");
        y.putRegister(0, ONE);
        y.run(10);
        CHECK.due("no load ahead of the store is replayed", y.count(5), 0);
        CHECK.due("d", y.register(3, 0), 0);
        CHECK.due("e", y.register(4, 0), ONE);
        doneLoadAheadOfAStore();
    }

    private static void doneLoadAheadOfAStore() {
        AlibiWindow x = wide("b=b*b;b=b*b;d=[c0];a=a*a;[c0]=a");
        x.putRegister(0, ONE);
        x.run(6);
        dueOfEntries(x, 1, WORKING, DONE, DONE, DONE);
        CHECK.due("a done load ahead of the store stays", x.count(5), 0);
    }

    private static void loadLeavesStoresOfOtherCells() {
        CHECK.sentence("and has the same cell, otherwise that of the memory");
        AlibiWindow x = wide("[a0]=c;[a1]=c;[a2]=c;b=[d0]");
        x.putRegister(2, ONE);
        x.putRegister(3, ONE);
        x.putCell(1, 77);
        x.set(2, 1);
        x.run(4);
        dueEntry(x, 2, 3, DONE, 0, NONE, NONE, 1, 1, ONE, 1);
        AlibiWindow y = wide("[a0]=c;[a2]=c;b=b+b;b=[d0]");
        y.putRegister(2, ONE);
        y.putRegister(3, ONE);
        y.putCell(1, 77);
        y.set(2, 1);
        y.run(4);
        dueEntry(y, 2, 3, DONE, 0, NONE, NONE, 1, NONE, 77, 1);
    }

    private static void loadTakesMemoryOfRetiredStores() {
        CHECK.sentence("the latest STORE ahead of it in the window, otherwise that of the memory; or NONE");
        AlibiWindow x = wide("a=1;b=2;[c0]=a;[c0]=b;d=[c0]");
        x.run(5);
        dueEntry(x, 0, 4, DONE, 0, NONE, NONE, 0, NONE, bits(0.5f), 1);
        CHECK.due("no STORE was ahead then", x.count(9), 0);
    }

    private static void loadTakesMemoryAheadOfAnOpenStore() {
        CHECK.sentence("that is done, otherwise that of the memory");
        AlibiWindow x = wide(EARLY_LOAD);
        x.putCell(1, 77);
        x.run(5);
        dueEntry(x, 2, 3, DONE, 0, NONE, NONE, 1, NONE, 77, 1);
        CHECK.due("with a STORE ahead that was not done", x.count(9), 1);
    }

    private static void loadTakesAStoreOfTheSameCycle() {
        CHECK.sentence("for each working entry, in their order: a STORE of the same cycle is done ahead of the LOAD");
        AlibiWindow x = wideRan("a=1;[c0]=a;d=[c0]", 4);
        dueEntry(x, 1, 2, DONE, 0, NONE, NONE, 0, 1, bits(0.25f), 1);
        CHECK.due("replays", x.count(5), 0);
        CHECK.due("LOADs that came to be done", x.count(8), 1);
        CHECK.due("with a STORE ahead that was not done", x.count(9), 0);
    }

    private static void storeBreaksNoAlibi() {
        CHECK.sentence("whose alibi is NONE");
        AlibiWindow x = wideRan(EARLY_LOAD, 6);
        CHECK.due("ahead of the STORE's end", x.count(5), 0);
        x.run(1);
        CHECK.due("replays", x.count(5), 1);
    }

    private static void storeBreaksALesserAlibi() {
        CHECK.sentence("or a number less than that of this STORE");
        AlibiWindow x = wideRan("b=b*b;[d0]=a;[b0]=c;f=[d0]", 5);
        dueEntry(x, 3, 3, DONE, 0, NONE, NONE, 0, 1, 0, 1);
        CHECK.due("replays", x.count(5), 0);
        x.run(1);
        CHECK.due("replays", x.count(5), 1);
        CHECK.due("of the LOAD", x.instruction(3, 6), 1);
    }

    private static void storeLeavesAGreaterAlibi() {
        CHECK.sentence("whose alibi is NONE or a number less than that of this STORE: a greater one stays");
        AlibiWindow x = wide("b=b*b;[b0]=c;[d0]=e;f=[d0]");
        x.putRegister(4, ONE);
        x.run(6);
        dueOfEntries(x, 1, DONE, DONE, DONE);
        dueEntry(x, 2, 3, DONE, 0, NONE, NONE, 0, 2, ONE, 1);
        CHECK.due("replays", x.count(5), 0);
    }

    private static void storeLeavesLoadsThatAreNotDone() {
        CHECK.sentence("the LOADs behind it in the window that are done");
        AlibiWindow x = wideRan("a=a+a;[a0]=b;c=[d0]", 4);
        dueOfEntries(x, 1, DONE, DONE);
        CHECK.due("the LOAD was working", x.count(5), 0);
        AlibiWindow y = wide("a=a+a;a=a+a;[a0]=b;c=c*c;d=[c0]");
        y.run(5);
        CHECK.due("the LOAD was waiting", y.count(5), 0);
        CHECK.due("its distrust", y.instruction(4, 5), 0);
    }

    private static void storeLeavesOtherCells() {
        CHECK.sentence("have the same cell");
        AlibiWindow x = wideRan("b=b*b;[b0]=c;e=[d1];f=[d9]", 8);
        CHECK.due("early LOADs", x.count(9), 2);
        CHECK.due("replays", x.count(5), 0);
        AlibiWindow y = wideRan("b=b*b;[b0]=c;e=[d1];f=[d0]", 6);
        CHECK.due("the first one with the same cell", y.instruction(3, 6), 1);
        CHECK.due("not the one ahead of it", y.instruction(2, 6), 0);
    }

    private static void onlyTheFirstLoadIsReplayed() {
        CHECK.sentence("the first one of them is replayed: its distrust becomes 3, and this is one replay");
        AlibiWindow x = wideRan("b=b*b;[b0]=c;e=[d0];f=[d0];g=[d0]", 6);
        CHECK.due("replays", x.count(5), 1);
        CHECK.due("entries made waiting", x.count(6), 3);
        for (int load = 2; load <= 4; load++) {
            CHECK.due("distrust of " + load, x.instruction(load, 5), load == 2 ? 3 : 0);
            CHECK.due("replays of " + load, x.instruction(load, 6), load == 2 ? 1 : 0);
        }
        x.run(20);
        CHECK.due("replays", x.count(5), 1);
    }

    private static void allBehindWaitAgain() {
        CHECK.sentence("that LOAD and all entries behind it are waiting again");
        AlibiWindow x = wideRan(REPLAY_IN_6, 5);
        dueOfEntries(x, 1, DONE, WORKING, DONE, DONE, DONE, WORKING, WAITING);
        x.set(1, 1);
        x.run(1);
        dueOfEntries(x, 0, 1, 2, 3, 4, 5, 6);
        dueOfEntries(x, 1, DONE, DONE, WORKING, WAITING, WAITING, WAITING);
        dueOfEntries(x, 5, 0, NONE, NONE, NONE, NONE, NONE);
        dueOfEntries(x, 7, 0, bits(0.25f), 0, 0, 0, 0);
        dueOfEntries(x, 8, 1, 1, 1, 0, 0, 2);
        CHECK.due("entries made waiting, those that were waiting too", x.count(6), 4);
    }

    private static void replayedWorkIsLost() {
        CHECK.sentence("An entry that is replayed while it was working loses its work, and is not worked on in this cycle");
        AlibiWindow x = wideRan(REPLAY_IN_6, 5);
        CHECK.due("the product's work that is left", x.entry(5, 2), 1);
        x.run(1);
        dueOfEntries(x, 1, DONE, DONE, WORKING, WORKING, WORKING, WAITING);
        dueOfEntries(x, 2, 0, 0, 2, 1, 3, 0);
        AlibiWindow y = wideRan(REPLAY_IN_6, 5);
        y.set(1, 1);
        y.run(1);
        CHECK.due("not working, no work is left", y.entry(4, 2), 0);
    }

    private static void startedInACycle() {
        CHECK.sentence("for each waiting entry, in their order, as long as fewer than setting 1 entries were started");
        for (int width = 1; width <= 4; width++) {
            AlibiWindow x = wideRan("a=a*a;b=b*b;c=c*c;d=d*d", 1);
            x.set(1, width);
            x.run(1);
            dueOfEntries(x, 1, 1, width > 1 ? 1 : 0, width > 2 ? 1 : 0, width > 3 ? 1 : 0);
        }
        AlibiWindow y = wideRan(EIGHT_PRODUCTS, 2);
        y.run(1);
        dueOfEntries(y, 1, WORKING, WORKING, WORKING, WORKING, WORKING, WORKING, WORKING, WORKING);
        AlibiWindow z = wideRan(EIGHT_PRODUCTS, 2);
        z.set(1, 3);
        z.run(1);
        dueOfEntries(z, 1, WORKING, WORKING, WORKING, WORKING, WORKING, WORKING, WORKING, WAITING);
    }

    private static void entriesThatCannotStartTakeNoPlace() {
        CHECK.sentence("it is started if its operands are ready");
        AlibiWindow x = wideRan("a=a*a;b=a+c;b=c+a;d=4", 2);
        dueOfEntries(x, 1, WORKING, WAITING, WAITING, WORKING);
        AlibiWindow y = wideRan("a=a*a;b=a+c;b=c+a;d=4", 1);
        y.set(1, 1);
        y.run(1);
        dueOfEntries(y, 1, WORKING, WAITING, WAITING, WAITING);
        y.run(1);
        dueOfEntries(y, 1, WORKING, WAITING, WAITING, WORKING);
    }

    /** A machine whose next instruction is the STORE, and whose LOAD behind it has distrust. */
    private static AlibiWindow distrusting(String behind) {
        AlibiWindow x = ran(EARLY_LOAD + behind, 7);
        x.flush();
        CHECK.due("distrust", x.instruction(3, 5), 3);
        return x;
    }

    private static void distrustedLoadWaitsForStoresAhead() {
        CHECK.sentence("unless it is a LOAD with a distrust above 0, and a STORE ahead of it in the window is not done");
        AlibiWindow x = distrusting("");
        x.run(1);
        dueOfEntries(x, 8, 0, 4);
        x.run(1);
        dueOfEntries(x, 1, WORKING, WAITING);
        dueOfEntries(x, 8, 1, 4);
        x.run(1);
        dueOfEntries(x, 1, DONE, WORKING);
        x.run(5);
        CHECK.due("replays", x.count(5), 1);
        CHECK.due("c", x.register(2, 0), ONE);
    }

    private static void distrustedLoadDoesNotWaitForStoresBehind() {
        CHECK.sentence("a STORE ahead of it in the window");
        AlibiWindow x = distrusting(";[h0]=c;[h1]=h");
        x.set(0, 8);
        x.set(1, 4);
        x.run(3);
        dueOfEntries(x, 1, DONE, WORKING, WAITING, DONE);
    }

    private static void trustedLoadDoesNotWait() {
        CHECK.sentence("a LOAD with a distrust above 0: one with distrust 0 is started");
        AlibiWindow x = wideRan("b=b*b;[b0]=c;e=[d0]", 2);
        dueOfEntries(x, 1, WORKING, WAITING, WORKING);
        AlibiWindow y = wideRan("b=b*b;[b0]=c;e=[d0]", 1);
        dueOfEntries(y, 8, 0, 2, 0);
    }

    private static void issuedUpToTheWindow() {
        CHECK.sentence("as long as the window has fewer entries than setting 0");
        for (int window = 1; window <= 8; window++) {
            AlibiWindow x = wide(EIGHT_PRODUCTS + ";a=1");
            x.set(0, window);
            x.run(4);
            CHECK.due("entries", x.count(2), window);
            CHECK.due("issued", x.count(3), window);
        }
        AlibiWindow y = wideRan(EIGHT_PRODUCTS + ";a=1", 4);
        CHECK.due("eight at most", y.count(2), 8);
    }

    private static void issuedUpToTheWidth() {
        CHECK.sentence("fewer than setting 1 instructions were issued in this cycle");
        for (int width = 1; width <= 4; width++) {
            AlibiWindow x = wide(EIGHT_PRODUCTS);
            x.set(1, width);
            x.run(1);
            CHECK.due("issued in one cycle", x.count(3), width);
            x.run(1);
            CHECK.due("issued in two cycles", x.count(3), 2 * width);
        }
    }

    private static void issuedUpToTheEnd() {
        CHECK.sentence("and there is an instruction that was not issued yet");
        AlibiWindow x = wideRan("a=a*a;b=b*b;c=3;d=4;e=5", 1);
        CHECK.due("issued", x.count(3), 4);
        x.run(1);
        CHECK.due("issued", x.count(3), 5);
        x.run(1);
        CHECK.due("issued", x.count(3), 5);
        AlibiWindow none = new AlibiWindow();
        none.run(100);
        CHECK.due("issued without a program", none.count(3), 0);
        AlibiWindow y = wideRan(times(24, "a=1"), 100);
        CHECK.due("issued of 24", y.count(3), 24);
        CHECK.due("entries", y.count(2), 0);
    }

    private static void retiringMakesRoomForIssuing() {
        CHECK.sentence("In a cycle, these things happen: retiring, working, starting, issuing");
        AlibiWindow x = loaded("a=1;b=2");
        x.set(0, 1);
        x.run(3);
        dueOfEntries(x, 0, 0);
        CHECK.due("retired", x.run(1), 1);
        dueOfEntries(x, 0, 1);
        dueOfEntries(x, 1, WAITING);
        x.run(1);
        dueOfEntries(x, 1, WORKING);
    }

    private static void entriesStayInASmallerWindow() {
        CHECK.sentence("If the window becomes less later, entries stay");
        AlibiWindow x = wideRan(EIGHT_PRODUCTS + ";a=1;b=2", 2);
        x.set(0, 2);
        CHECK.due("entries", x.count(2), 8);
        x.set(2, 3);
        x.run(4);
        dueOfEntries(x, 0, 3, 4, 5, 6, 7);
        x.run(1);
        dueOfEntries(x, 0, 6, 7);
        CHECK.due("none is issued while there are as many as the window has", x.count(3), 8);
        x.run(1);
        dueOfEntries(x, 0, 8, 9);
    }

    private static void finishedWhenAllAreRetired() {
        CHECK.sentence("The program is finished when all instructions are retired");
        AlibiWindow x = loaded("a=1;b=2;c=3");
        CHECK.due("not begun", x.count(10), 0);
        x.run(4);
        CHECK.due("two of three are retired", x.count(4), 2);
        CHECK.due("two of three are retired", x.count(10), 0);
        x.run(1);
        CHECK.due("all are retired", x.count(4), 3);
        CHECK.due("all are retired", x.count(10), 1);
        CHECK.due("a program without instructions", new AlibiWindow().count(10), 1);
    }
}
