import java.util.ArrayList;
import java.util.List;

/** What the tests of runs have in common: objects brought to a wanted place of a run, and questions to them. */
abstract class Runs {
    static final Class<IndexOutOfBoundsException> INDEX = IndexOutOfBoundsException.class;
    static final Class<IllegalArgumentException> ARGUMENT = IllegalArgumentException.class;
    static final Class<IllegalStateException> STATE = IllegalStateException.class;
    static final int NONE = AlibiWindow.NONE;
    static final int SIGN = 0x80000000;
    static final int ONE = bits(1.0f);
    static final int MILLION = bits(1000000.0f);

    // The load is done ahead of the store to its cell, which waits for the product.
    static final String EARLY_LOAD = "a=4;b=a*a;[b0]=a;c=[a0]";
    // The load takes the value of the first store, as the second one waits for the product.
    static final String TWO_STORES = "a=4;b=a*a;[a0]=a;[b0]=b;c=[a0]";

    static final Check CHECK = new Check();

    static int bits(float value) {
        return Float.floatToIntBits(value);
    }

    static AlibiWindow typed(String text) {
        AlibiWindow x = new AlibiWindow();
        type(x, text);
        return x;
    }

    static void type(AlibiWindow x, String text) {
        for (int i = 0; i < text.length(); i++) {
            x.append(text.charAt(i));
        }
    }

    static AlibiWindow loaded(String text) {
        AlibiWindow x = typed(text);
        x.load();
        return x;
    }

    static AlibiWindow ran(String text, int cycles) {
        AlibiWindow x = loaded(text);
        x.run(cycles);
        return x;
    }

    /** With the greatest settings: the first cycle issues four, the second one starts those that are ready. */
    static AlibiWindow wide(String text) {
        AlibiWindow x = loaded(text);
        x.set(0, 8);
        x.set(1, 4);
        x.set(2, 4);
        return x;
    }

    static AlibiWindow wideRan(String text, int cycles) {
        AlibiWindow x = wide(text);
        x.run(cycles);
        return x;
    }

    static AlibiWindow inCycle(int cycle) {
        AlibiWindow x = new AlibiWindow();
        for (int left = cycle; left > 0; left -= 100) {
            x.run(Math.min(left, 100));
        }
        return x;
    }

    static String times(int count, String instruction) {
        StringBuilder text = new StringBuilder(instruction);
        for (int i = 1; i < count; i++) {
            text.append(';').append(instruction);
        }
        return text.toString();
    }

    static void dueNumbers(AlibiWindow x, String when, int... wanted) {
        for (int what = 0; what < wanted.length; what++) {
            CHECK.due(when + ": count(" + what + ")", x.count(what), wanted[what]);
        }
    }

    static void dueEntry(AlibiWindow x, int entry, int... wanted) {
        for (int what = 0; what < wanted.length; what++) {
            CHECK.due("entry(" + entry + ", " + what + ") in cycle " + x.count(0), x.entry(entry, what), wanted[what]);
        }
    }

    /** One property of each entry of the window, from the first one on. */
    static void dueOfEntries(AlibiWindow x, int what, int... wanted) {
        CHECK.due("entries in cycle " + x.count(0), x.count(2), wanted.length);
        for (int entry = 0; entry < wanted.length && entry < x.count(2); entry++) {
            CHECK.due("entry(" + entry + ", " + what + ") in cycle " + x.count(0), x.entry(entry, what), wanted[entry]);
        }
    }

    static void dueParts(AlibiWindow x, int instruction, int... wanted) {
        for (int what = 0; what < wanted.length; what++) {
            CHECK.due("instruction(" + instruction + ", " + what + ")", x.instruction(instruction, what), wanted[what]);
        }
    }

    private interface Question {
        int ask(int place, int what);
    }

    /** The digest, put together from what the other calls tell and the text in the buffer. */
    static long digestOf(AlibiWindow x, String text) {
        long hash = 2371;
        for (long value : digestedOf(x, text)) {
            hash = 31 * hash + value;
        }
        return hash;
    }

    /** The values of the digest's list. */
    static List<Long> digestedOf(AlibiWindow x, String text) {
        List<Long> values = new ArrayList<>();
        addAll(values, 1, 12, (place, what) -> x.count(what));
        addAll(values, 1, 3, (place, what) -> x.setting(what));
        addAll(values, x.count(1), 7, x::instruction);
        addAll(values, x.count(2), 9, x::entry);
        addAll(values, 8, 3, x::register);
        addAll(values, 16, 2, x::cell);
        addAll(values, 1, 3, (place, what) -> x.ifRun(10, what));
        addAll(values, 1, 1, (place, what) -> x.cyclesLeft());
        addAll(values, 1, 3, (place, what) -> x.bestWindow(what));
        addAll(values, 1, 1, (place, what) -> x.worstLoad());
        values.add(Double.doubleToLongBits(x.earlyShare()));
        values.add((long) text.length());
        addAll(values, text.length(), 1, (place, what) -> text.charAt(place));
        return values;
    }

    private static void addAll(List<Long> values, int places, int whats, Question question) {
        for (int place = 0; place < places; place++) {
            for (int what = 0; what < whats; what++) {
                values.add((long) question.ask(place, what));
            }
        }
    }
}
