import java.lang.reflect.InvocationTargetException;
import java.lang.reflect.Method;
import java.util.ArrayList;
import java.util.Arrays;
import java.util.List;
import java.util.Random;

/** Runs of calls from fixed seeds: the class and the reference must answer alike, exceptions too. */
public final class RandomRunsTest {
    private static final int RUNS = 1500;
    // An object is for no more calls.
    private static final int CALLS = 512;
    private static final String[] TWO_INTS = {"set", "putRegister", "putCell", "instruction", "entry", "register",
        "cell", "ifRun"};
    private static final String[] ONE_INT = {"run", "append", "whyNot", "count", "setting", "bestWindow"};
    private static final String[] NO_INT = {"flush", "again", "clearBuffer", "firstError", "load", "undo",
        "cyclesLeft", "worstLoad", "earlyShare", "digest"};
    private static final int[] ODD = {Integer.MIN_VALUE, Integer.MAX_VALUE, -1, -2, 24, 25, 100, 101, 120, 127, 0,
        0x7FC00000, 0x7F800000, 0xFF800000, 0x49742400, 0x49742401, 0xC9742400, 0xC9742401, 0x80000000, 1};

    private final Check check = new Check();
    private final Random random;
    private AlibiWindow window;
    private ReferenceWindow reference;
    private final List<String> calls = new ArrayList<>();
    private int made;

    private RandomRunsTest(long seed) {
        random = new Random(seed);
    }

    public static void main(String[] args) throws Exception {
        if (args.length == 0) {
            new RandomRunsTest(20261119).runAll();
        }
        for (String seed : args) {
            new RandomRunsTest(Long.parseLong(seed)).runAll();
        }
    }

    private void runAll() throws Exception {
        for (int i = 0; i < RUNS; i++) {
            window = new AlibiWindow();
            reference = new ReferenceWindow();
            calls.clear();
            made = 0;
            while (made < CALLS) {
                switch (i % 3) {
                    case 0: anyCall(); break;
                    case 1: likelyCall(); break;
                    default: steps(); break;
                }
            }
        }
        check.end();
    }

    private void anyCall() throws Exception {
        int choice = random.nextInt(10);
        if (choice < 4) {
            call(pick(TWO_INTS), anyNumber(), anyNumber());
        } else if (choice < 7) {
            call(pick(ONE_INT), anyNumber());
        } else if (choice < 9) {
            call(pick(NO_INT));
        } else {
            type(program());
        }
    }

    private void likelyCall() throws Exception {
        int choice = random.nextInt(40);
        if (choice == 0) {
            call("clearBuffer");
            type(program());
            call("firstError");
            call("load");
        } else if (choice == 1) {
            type(brokenText());
            call("firstError");
            call("load");
            call("clearBuffer");
        } else if (choice < 4) {
            int setting = random.nextInt(3);
            call("set", setting, 1 + random.nextInt(setting == 0 ? 8 : 4));
        } else if (choice < 7) {
            call(random.nextBoolean() ? "putRegister" : "putCell", random.nextInt(8), value());
        } else if (choice == 7) {
            call(random.nextBoolean() ? "again" : "flush");
        } else if (choice == 8) {
            for (int i = random.nextInt(8); i >= 0; i--) {
                call("undo");
            }
        } else if (choice < 25) {
            call("run", random.nextInt(20) == 0 ? 1 + random.nextInt(100) : 1 + random.nextInt(2));
        } else if (choice < 32) {
            lookAround();
        } else {
            look();
        }
    }

    /** Cycles one by one in wide windows, with loads and stores that meet, and ways back. */
    private void steps() throws Exception {
        call("clearBuffer");
        type(meetingProgram());
        call("load");
        call("set", 0, 4 + random.nextInt(5));
        call("set", 1, 2 + random.nextInt(3));
        call("set", 2, 1 + random.nextInt(4));
        for (int i = 0; i < 8; i++) {
            call("putCell", i, Float.floatToIntBits(i / 2.0f));
        }
        for (int i = 20 + random.nextInt(40); i > 0; i--) {
            int choice = random.nextInt(30);
            if (choice < 20) {
                call("run", 1);
            } else if (choice < 22) {
                backAndForth(1 + random.nextInt(6));
            } else if (choice == 22) {
                call("flush");
            } else if (choice == 23 && reference.count(10) == 1) {
                call("again");
            } else {
                call("digest");
            }
        }
    }

    private void backAndForth(int states) throws Exception {
        for (int i = 0; i < states; i++) {
            call("undo");
        }
        lookAround();
        for (int i = 0; i < states; i++) {
            call("run", 1);
        }
        lookAround();
    }

    private void lookAround() throws Exception {
        call("digest");
        for (int i = 0; i < reference.count(2); i++) {
            for (int what = 0; what < 9; what++) {
                call("entry", i, what);
            }
        }
    }

    private void look() throws Exception {
        int choice = random.nextInt(10);
        switch (choice) {
            case 0: call("register", random.nextInt(8), random.nextInt(3)); break;
            case 1: call("cell", random.nextInt(16), random.nextInt(2)); break;
            case 2: call("count", random.nextInt(12)); break;
            case 3: call("ifRun", 1 + random.nextInt(100), random.nextInt(3)); break;
            case 4: call("bestWindow", random.nextInt(3)); break;
            case 5: call("cyclesLeft"); break;
            case 6: call("worstLoad"); break;
            case 7: call("earlyShare"); break;
            case 8: call("instruction", random.nextInt(24), random.nextInt(7)); break;
            default: call("whyNot", random.nextInt(8)); break;
        }
    }

    private int anyNumber() {
        return random.nextInt(4) == 0 ? ODD[random.nextInt(ODD.length)] : random.nextInt(random.nextBoolean() ? 9 : 130);
    }

    private int value() {
        switch (random.nextInt(4)) {
            case 0: return ODD[random.nextInt(ODD.length)];
            case 1: return random.nextInt();
            case 2: return Float.floatToIntBits((random.nextFloat() - 0.5f) * 64);
            default: return Float.floatToIntBits(random.nextInt(40) - 20);
        }
    }

    // Few registers and offsets, so that loads and stores meet in one cell.
    private String program() {
        int registers = 2 + random.nextInt(7);
        int offsets = 1 + random.nextInt(4);
        int count = 1 + random.nextInt(random.nextInt(12) == 0 ? 30 : 22);
        StringBuilder text = new StringBuilder();
        for (int i = 0; i < count && text.length() < 112; i++) {
            text.append(i == 0 ? "" : ";");
            char r = (char) ('a' + random.nextInt(registers));
            char p = (char) ('a' + random.nextInt(registers));
            char q = (char) ('a' + random.nextInt(registers));
            int o = random.nextInt(offsets);
            switch (random.nextInt(7)) {
                case 0: text.append(r).append('=').append(random.nextInt(199) - 99); break;
                case 1: text.append(r).append('=').append(p).append('+').append(q); break;
                case 2: text.append(r).append('=').append(p).append('*').append(q); break;
                case 3:
                case 4: text.append(r).append("=[").append(p).append(o).append(']'); break;
                default: text.append('[').append(p).append(o).append("]=").append(q); break;
            }
        }
        return text.toString();
    }

    // Products of 0 or 1 delay some of the stores that share a few cells with the loads.
    private String meetingProgram() {
        String[] parts = {"a=4", "b=0", "b=b*b", "a=a*b", "c=a*b", "[b0]=a", "[b0]=c", "[b0]=d", "[a0]=c", "[c0]=b",
            "[a1]=d", "c=[b0]", "d=[a0]", "d=[b0]", "a=[c0]", "c=[b1]", "d=c+d", "b=a+b"};
        StringBuilder text = new StringBuilder(pick(parts));
        for (int i = 10 + random.nextInt(8); i > 0 && text.length() < 112; i--) {
            text.append(';').append(pick(parts));
        }
        return text.toString();
    }

    private String brokenText() {
        StringBuilder text = new StringBuilder(program());
        String signs = "abhi=[]+*-;0129~!";
        for (int i = random.nextInt(3); i >= 0 && text.length() > 1; i--) {
            int place = random.nextInt(text.length());
            char sign = signs.charAt(random.nextInt(signs.length()));
            switch (random.nextInt(3)) {
                case 0: text.setCharAt(place, sign); break;
                case 1: text.insert(place, sign); break;
                default: text.deleteCharAt(place); break;
            }
        }
        return text.substring(0, Math.min(text.length(), 1 + random.nextInt(130)));
    }

    private void type(String text) throws Exception {
        for (int i = 0; i < text.length(); i++) {
            call("append", text.charAt(i));
        }
    }

    private String pick(String[] names) {
        return names[random.nextInt(names.length)];
    }

    private void call(String name, int... numbers) throws Exception {
        if (made >= CALLS) {
            return;
        }
        made++;
        calls.add(name + Arrays.toString(numbers));
        Class<?>[] types = new Class<?>[numbers.length];
        Object[] values = new Object[numbers.length];
        for (int i = 0; i < numbers.length; i++) {
            types[i] = int.class;
            values[i] = numbers[i];
        }
        String want = answer(ReferenceWindow.class.getMethod(name, types), reference, values);
        String got = answer(AlibiWindow.class.getMethod(name, types), window, values);
        if (!want.equals(got)) {
            check.holds("behind " + calls + ": " + got + " for " + want, false);
            check.end();
        }
        check.holds(name, true);
    }

    private static String answer(Method method, Object object, Object[] values) throws IllegalAccessException {
        try {
            Object answer = method.invoke(object, values);
            return answer instanceof Double
                ? "double " + Double.doubleToLongBits((Double) answer) : answer.toString();
        } catch (InvocationTargetException e) {
            return e.getCause().getClass().getName();
        }
    }
}
