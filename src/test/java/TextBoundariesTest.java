/** The sentences on the buffer and on programs as texts (promises 8 to 11) that name a boundary case, each by itself. */
public final class TextBoundariesTest extends Runs {
    private static final String FULL = times(30, "a=1") + ";";

    public static void main(String[] args) {
        codesAre33To126();
        bufferHas120Characters();
        codeIsLookedAtAheadOfTheBuffer();
        appendReturnsTheNewLength();
        clearBufferReturnsTheLength();
        emptyBufferHasNoError();
        errorAtTheFirstCharacter();
        errorAtTheLastCharacter();
        firstOfTwoErrors();
        noErrorIsTheLength();
        programsOfAnyLength();
        oneOrMoreInstructions();
        numberHasOneOrTwoDigits();
        numberHasNoLeadingZero();
        minusZeroIsAllowed();
        numberIsWhole();
        clearedCharactersAreNotRead();
        lettersAreAToH();
        offsetIsOneDigit();
        eachKindAlone();
        bufferMustBeACompleteProgram();
        atMost24Instructions();
        syntaxIsLookedAtAheadOfTheLength();
        loadReturnsTheInstructions();
        loadClearsTheBuffer();
        loadTakesThePlaceOfTheProgram();
        loadLeavesNothingOfALongerProgram();
        loadBeginsAsAgainDoes();
        countsGoOn();
        CHECK.end();
    }

    private static void codesAre33To126() {
        CHECK.sentence("Promise 8: code: the character code, 33 to 126");
        AlibiWindow x = new AlibiWindow();
        CHECK.dueRange("append", 33, 126, ARGUMENT, x::append);
        CHECK.dueThrow("append of a code whose low bits are those of a letter", ARGUMENT, () -> x.append(65536 + 'a'));
        CHECK.dueThrow("append of a code whose low bits are those of a letter", ARGUMENT, () -> x.append(256 + 'a'));
        CHECK.due("length", x.clearBuffer(), 94);
    }

    private static void bufferHas120Characters() {
        CHECK.sentence("The buffer has at most 120 characters");
        AlibiWindow x = new AlibiWindow();
        for (int length = 1; length <= 120; length++) {
            CHECK.due("append", x.append(FULL.charAt(length - 1)), length);
        }
        CHECK.dueThrow("append of one more", STATE, () -> x.append('a'));
        CHECK.due("all of them are read", x.firstError(), 120);
        CHECK.due("clearBuffer", x.clearBuffer(), 120);
        CHECK.due("append to the cleared buffer", x.append('a'), 1);
    }

    private static void codeIsLookedAtAheadOfTheBuffer() {
        CHECK.sentence("Exceptions: the one that is named first is thrown: append");
        AlibiWindow x = typed(FULL);
        CHECK.dueThrow("append(32)", ARGUMENT, () -> x.append(32));
        CHECK.dueThrow("append(127)", ARGUMENT, () -> x.append(127));
        CHECK.dueThrow("append(33)", STATE, () -> x.append(33));
    }

    private static void appendReturnsTheNewLength() {
        CHECK.sentence("Promise 8: Returns the new length of the buffer");
        AlibiWindow x = new AlibiWindow();
        CHECK.due("the first one", x.append('!'), 1);
        CHECK.due("also behind an error", x.append('!'), 2);
        CHECK.dueThrow("append(32)", ARGUMENT, () -> x.append(32));
        CHECK.due("not counting what was refused", x.append('!'), 3);
    }

    private static void clearBufferReturnsTheLength() {
        CHECK.sentence("Promise 9: Returns the length that it had");
        CHECK.due("of an empty buffer", new AlibiWindow().clearBuffer(), 0);
        CHECK.due("of one character", typed("a").clearBuffer(), 1);
        AlibiWindow x = typed(FULL);
        CHECK.due("of a full buffer", x.clearBuffer(), 120);
        CHECK.due("of a cleared buffer", x.clearBuffer(), 0);
    }

    private static void emptyBufferHasNoError() {
        CHECK.sentence("Promise 10: the length of the buffer if there is none: it is empty");
        AlibiWindow x = new AlibiWindow();
        CHECK.due("firstError", x.firstError(), 0);
        type(x, "!");
        x.clearBuffer();
        CHECK.due("firstError of a cleared buffer", x.firstError(), 0);
    }

    private static void errorAtTheFirstCharacter() {
        CHECK.sentence("Promise 10: Returns the index of the first character that is a syntax error: the first one");
        for (char sign = 33; sign <= 126; sign++) {
            boolean begins = sign >= 'a' && sign <= 'h' || sign == '[';
            CHECK.due("firstError of " + sign + "=", typed(sign + "=").firstError(), begins && sign != '[' ? 2
                : begins ? 1 : 0);
        }
    }

    private static void errorAtTheLastCharacter() {
        CHECK.sentence("Promise 10: Returns the index of the first character that is a syntax error: the last one");
        CHECK.due("firstError", typed("a=1;;").firstError(), 4);
        CHECK.due("firstError", typed(times(30, "a=1") + ",").firstError(), 119);
        CHECK.due("firstError", typed(times(29, "a=1") + ";a=-;").firstError(), 119);
    }

    private static void firstOfTwoErrors() {
        CHECK.sentence("Promise 10: the first syntax error of the buffer");
        CHECK.due("firstError", typed("a!!").firstError(), 1);
        CHECK.due("firstError", typed("a=1;!=1;!=1").firstError(), 4);
        AlibiWindow x = typed("i");
        CHECK.due("firstError", x.firstError(), 0);
        type(x, "a=1;");
        CHECK.due("what comes behind does not matter", x.firstError(), 0);
    }

    private static void noErrorIsTheLength() {
        CHECK.sentence("Promise 10: the length of the buffer if there is none");
        String whole = "a=-10;h=b+c;d=e*f;g=[h9];[a0]=b;c=0;d=-0;e=7";
        for (int length = 0; length <= whole.length(); length++) {
            CHECK.due("firstError of " + length, typed(whole.substring(0, length)).firstError(), length);
        }
        CHECK.due("firstError of a full buffer", typed(FULL).firstError(), 120);
    }

    private static void programsOfAnyLength() {
        CHECK.sentence("a syntax error if no program, of any length, begins with the characters before it and this one");
        CHECK.due("24 instructions and ;", typed(times(24, "a=1") + ";").firstError(), 96);
        CHECK.due("the 25th instruction", typed(times(25, "a=1")).firstError(), 99);
        CHECK.due("30 instructions", typed(times(30, "a=1")).firstError(), 119);
        CHECK.due("a program of more than 120 characters", typed(times(30, "a=1") + ";").firstError(), 120);
    }

    private static void oneOrMoreInstructions() {
        CHECK.sentence("A program as a text consists of one or more instructions with \";\" between them");
        dueIncomplete("", 0);
        dueIncomplete(";", 0);
        dueIncomplete(";a=1", 0);
        dueIncomplete("a=1;", 4);
        dueIncomplete("a=1;;a=1", 4);
        dueIncomplete("a=1a=1", 3);
        dueComplete("a=1", 1);
        dueComplete("a=1;a=1", 2);
    }

    private static void numberHasOneOrTwoDigits() {
        CHECK.sentence("SET: the number has one or two digits");
        dueIncomplete("a=", 2);
        dueIncomplete("a=-", 3);
        dueIncomplete("a=-;b=1", 3);
        dueNumber("1", 1);
        dueNumber("9", 9);
        dueNumber("10", 10);
        dueNumber("99", 99);
        dueNumber("-1", -1);
        dueNumber("-9", -9);
        dueNumber("-10", -10);
        dueNumber("-99", -99);
        dueIncomplete("a=100", 4);
        dueIncomplete("a=999", 4);
        dueIncomplete("a=-100", 5);
    }

    private static void numberHasNoLeadingZero() {
        CHECK.sentence("no leading zero unless it is 0");
        dueNumber("0", 0);
        dueIncomplete("a=00", 3);
        dueIncomplete("a=01", 3);
        dueIncomplete("a=09", 3);
        dueIncomplete("a=-00", 4);
        dueIncomplete("a=-01", 4);
        dueNumber("20", 20);
    }

    private static void minusZeroIsAllowed() {
        CHECK.sentence("\"-0\" is allowed, n is 0 then");
        dueNumber("-0", 0);
        AlibiWindow x = ran("a=-0", 4);
        CHECK.due("it is 0.0f", x.register(0, 0), 0);
        dueIncomplete("a=--0", 3);
        dueIncomplete("a=+0", 2);
    }

    private static void numberIsWhole() {
        CHECK.sentence("r becomes n / 4.0f, with a whole number n, -99 to 99");
        for (int n : new int[] {-99, -98, -1, 0, 1, 98, 99}) {
            AlibiWindow x = ran("a=" + n, 4);
            CHECK.due("a=" + n, x.register(0, 0), bits(n / 4.0f));
        }
        dueIncomplete("a=1.5", 3);
    }

    private static void clearedCharactersAreNotRead() {
        CHECK.sentence("Promise 9: Clears the buffer: what was in it is no digit of a number");
        AlibiWindow x = typed("a=12");
        x.clearBuffer();
        type(x, "a=1");
        CHECK.due("load", x.load(), 1);
        CHECK.due("n", x.instruction(0, 4), 1);
        type(x, "a=-");
        CHECK.due("firstError", x.firstError(), 3);
        CHECK.dueThrow("load", ARGUMENT, x::load);
    }

    private static void dueNumber(String number, int n) {
        AlibiWindow x = typed("a=" + number);
        CHECK.due("firstError of a=" + number, x.firstError(), 2 + number.length());
        CHECK.due("load of a=" + number, x.load(), 1);
        dueParts(x, 0, 0, 0, NONE, NONE, n);
        AlibiWindow y = loaded("b=1;a=" + number + ";c=2");
        dueParts(y, 1, 0, 0, NONE, NONE, n);
    }

    private static void lettersAreAToH() {
        CHECK.sentence("with any letters \"a\" to \"h\"");
        for (String text : new String[] {"?=1", "?=b+c", "a=?+c", "a=b+?", "a=b*?", "a=[?3]", "[?3]=a", "[b3]=?"}) {
            int place = text.indexOf('?');
            for (char letter = 'a'; letter <= 'h'; letter++) {
                dueComplete(text.replace('?', letter), 1);
            }
            for (char wrong : "`ijz@AH".toCharArray()) {
                dueIncomplete(text.replace('?', wrong), place);
            }
        }
    }

    private static void offsetIsOneDigit() {
        CHECK.sentence("and any digit 0 to 9 as the offset");
        for (int o = 0; o <= 9; o++) {
            dueParts(loaded("a=[b" + o + "]"), 0, 3, 0, 1, NONE, o);
            dueParts(loaded("[b" + o + "]=a"), 0, 4, NONE, 1, 0, o);
        }
        dueIncomplete("a=[b]", 4);
        dueIncomplete("a=[b10]", 5);
        dueIncomplete("a=[b00]", 5);
        dueIncomplete("a=[b-1]", 4);
        dueIncomplete("a=[b/]", 4);
        dueIncomplete("a=[b:]", 4);
        dueIncomplete("[b]=a", 2);
        dueIncomplete("[b10]=a", 3);
        dueIncomplete("[b/]=a", 2);
        dueIncomplete("[b:]=a", 2);
    }

    private static void eachKindAlone() {
        CHECK.sentence("\"a=5\" or \"a=-5\", \"a=b+c\", \"a=b*c\", \"a=[b3]\", \"[b3]=a\"");
        dueParts(loaded("a=5"), 0, 0, 0, NONE, NONE, 5, 0, 0);
        dueParts(loaded("a=-5"), 0, 0, 0, NONE, NONE, -5, 0, 0);
        dueParts(loaded("a=b+c"), 0, 1, 0, 1, 2, 0, 0, 0);
        dueParts(loaded("a=b*c"), 0, 2, 0, 1, 2, 0, 0, 0);
        dueParts(loaded("a=[b3]"), 0, 3, 0, 1, NONE, 3, 0, 0);
        dueParts(loaded("[b3]=a"), 0, 4, NONE, 1, 0, 3, 0, 0);
        for (String text : new String[] {"a=b", "a=b+", "a=b*", "a=[", "a=[b", "a=[b3", "[", "[b", "[b3", "[b3]", "[b3]="}) {
            dueIncomplete(text, text.length());
            dueIncomplete(text + ";", text.length());
        }
        dueIncomplete("a=b-c", 3);
        dueIncomplete("a=b+1", 4);
        dueIncomplete("a=1+b", 3);
        dueIncomplete("a=b+c+d", 5);
        dueIncomplete("[b3]=1", 5);
        dueIncomplete("[b3]=[b3]", 5);
        dueIncomplete("[b3]=a+b", 6);
    }

    private static void dueIncomplete(String text, int error) {
        AlibiWindow x = typed(text);
        CHECK.due("firstError of " + text, x.firstError(), error);
        CHECK.dueThrow("load of " + text, ARGUMENT, x::load);
        CHECK.due("the buffer behind load of " + text, x.clearBuffer(), text.length());
    }

    private static void dueComplete(String text, int instructions) {
        AlibiWindow x = typed(text);
        CHECK.due("firstError of " + text, x.firstError(), text.length());
        CHECK.due("load of " + text, x.load(), instructions);
    }

    private static void bufferMustBeACompleteProgram() {
        CHECK.sentence("Promise 11: IllegalArgumentException if the buffer is not a complete program");
        CHECK.dueThrow("load of nothing", ARGUMENT, new AlibiWindow()::load);
        AlibiWindow x = typed("a=1;b=");
        CHECK.dueThrow("load of what goes on", ARGUMENT, x::load);
        type(x, "2");
        CHECK.due("load of the whole", x.load(), 2);
        CHECK.dueThrow("load of the cleared buffer", ARGUMENT, x::load);
        CHECK.dueThrow("load with an error ahead of a program", ARGUMENT, typed("!a=1")::load);
        CHECK.dueThrow("load with an error behind a program", ARGUMENT, typed("a=1!")::load);
        CHECK.dueThrow("load with an error behind a program", ARGUMENT, typed("a=1;!;a=1")::load);
    }

    private static void atMost24Instructions() {
        CHECK.sentence("Promise 11: IllegalStateException if it has more than 24 instructions");
        dueComplete(times(23, "a=1"), 23);
        dueComplete(times(24, "a=1"), 24);
        for (int count = 25; count <= 30; count++) {
            CHECK.dueThrow("load of " + count, STATE, typed(times(count, "a=1"))::load);
        }
    }

    private static void syntaxIsLookedAtAheadOfTheLength() {
        CHECK.sentence("Exceptions: the one that is named first is thrown: load");
        dueIncomplete(times(25, "a=1") + ";", 100);
        dueIncomplete(times(24, "a=1") + ";;", 96);
        dueIncomplete("!" + times(25, "a=1"), 0);
        dueIncomplete(times(29, "a=1") + ";a=b", 119);
    }

    private static void loadReturnsTheInstructions() {
        CHECK.sentence("Promise 11: Returns how many instructions it has");
        AlibiWindow x = typed("[a0]=b");
        CHECK.due("load of one", x.load(), 1);
        CHECK.due("instructions", x.count(1), 1);
        CHECK.due("load of 17", typed(times(17, "[a0]=b")).load(), 17);
        CHECK.due("load of 24", typed(times(23, "a=1") + ";a=b*b").load(), 24);
    }

    private static void loadClearsTheBuffer() {
        CHECK.sentence("Promise 11: clears the buffer");
        AlibiWindow x = loaded("a=1");
        CHECK.due("firstError", x.firstError(), 0);
        CHECK.due("append", x.append('a'), 1);
    }

    private static void loadTakesThePlaceOfTheProgram() {
        CHECK.sentence("Promise 11: Takes the program in the buffer in place of the one that there is");
        AlibiWindow x = loaded(times(24, "a=1"));
        type(x, "b=-2");
        x.load();
        CHECK.due("instructions", x.count(1), 1);
        CHECK.dueRange("instruction(.., 0)", 0, 0, INDEX, n -> x.instruction(n, 0));
        dueParts(x, 0, 0, 1, NONE, NONE, -2, 0, 0);
        type(x, "c=a+b;[d1]=e");
        x.load();
        dueParts(x, 0, 1, 2, 0, 1, 0, 0, 0);
        dueParts(x, 1, 4, NONE, 3, 4, 1, 0, 0);
        x.undo();
        dueParts(x, 0, 0, 1, NONE, NONE, -2, 0, 0);
        x.undo();
        CHECK.due("instructions of the first program", x.count(1), 24);
        dueParts(x, 23, 0, 0, NONE, NONE, 1, 0, 0);
    }

    private static void loadLeavesNothingOfALongerProgram() {
        CHECK.sentence("Promise 11: in place of the one that there is: a longer one");
        AlibiWindow x = ran(EARLY_LOAD + ";d=5;[h9]=d", 8);
        CHECK.due("worstLoad", x.worstLoad(), 3);
        CHECK.due("d behind the longer one", x.register(3, 2), bits(1.25f));
        type(x, "a=1;b=2;c=3");
        x.load();
        CHECK.due("worstLoad", x.worstLoad(), NONE);
        CHECK.due("d behind the shorter one", x.register(3, 2), 0);
        type(x, "e=1");
        x.load();
        for (int register = 0; register < 4; register++) {
            CHECK.due("as before", x.register(register, 2), x.register(register, 0));
        }
        CHECK.due("cell 9 behind the shorter one", x.cell(9, 1), 0);
        CHECK.due("cyclesLeft", x.cyclesLeft(), 4);
        CHECK.due("run", x.run(100), 1);
    }

    private static void loadBeginsAsAgainDoes() {
        CHECK.sentence("Promise 11: and begins it as again() does");
        AlibiWindow x = ran(EARLY_LOAD, 7);
        CHECK.due("distrust", x.instruction(3, 5), 3);
        type(x, EARLY_LOAD);
        x.load();
        dueNumbers(x, "loaded", 7, 4, 0, 0, 0);
        CHECK.due("not finished", x.count(10), 0);
        CHECK.due("distrust", x.instruction(3, 5), 0);
        CHECK.due("replays since", x.instruction(3, 6), 0);
        CHECK.due("a stays", x.register(0, 0), ONE);
        AlibiWindow y = ran("[a0]=h;b=1", 50);
        y.putCell(5, 77);
        type(y, "c=3");
        y.load();
        CHECK.due("memory stays", y.cell(5, 0), 77);
    }

    private static void countsGoOn() {
        CHECK.sentence("Promise 11: The number of the cycle and what is counted so far go on");
        AlibiWindow x = ran(EARLY_LOAD, 10);
        type(x, EARLY_LOAD);
        x.load();
        dueNumbers(x, "loaded", 10, 4, 0, 0, 0, 1, 1, 4, 2, 1, 0);
        x.run(10);
        dueNumbers(x, "run", 20, 4, 0, 4, 4, 2, 2, 8, 4, 2, 1);
    }
}
