import java.util.Random;

/** Sums and products of all sorts of floats, against those that Java makes. */
public final class FloatsTest extends Runs {
    private static final int PAIRS = 100000;
    private static final int[] EDGES = {0, 0x80000000, 1, 0x80000001, 2, 0x007FFFFF, 0x00800000, 0x00800001, 0x80800000,
        0x3F800000, 0xBF800000, 0x3F7FFFFF, 0x49742400, 0xC9742400, 0x497423FF, 0x447A0000, 0xC47A0001, 0x1A000000,
        0x20000000, 0x9A000001, 0x3E800000};

    private static AlibiWindow x;
    private static int compared;

    public static void main(String[] args) {
        for (int p : EDGES) {
            for (int q : EDGES) {
                compare(p, q);
            }
        }
        Random random = new Random(7);
        for (int i = 0; i < PAIRS; i++) {
            compare(any(random), any(random));
        }
        setsAreQuarters();
        CHECK.end();
    }

    // An object is for 512 calls only, and a comparison makes seven of them.
    private static void takeFreshObject() {
        if (compared % 60 == 0) {
            x = loaded("c=a+b;d=a*b;[a0]=b;[b9]=a");
        }
        compared++;
    }

    private static int any(Random random) {
        int bits = random.nextInt() & 0x80FFFFFF | random.nextInt(0x93) << 23;
        float value = Float.intBitsToFloat(bits);
        return value >= -1000000.0f && value <= 1000000.0f ? bits : EDGES[random.nextInt(EDGES.length)];
    }

    private static void compare(int p, int q) {
        takeFreshObject();
        float a = Float.intBitsToFloat(p);
        float b = Float.intBitsToFloat(q);
        x.putRegister(0, p);
        x.putRegister(1, q);
        CHECK.due(a + " + " + b, x.register(2, 2), Float.floatToIntBits(limited(a + b)));
        CHECK.due(a + " * " + b, x.register(3, 2), Float.floatToIntBits(limited(a * b)));
        int last = Math.floorMod((int) b + 9, 16);
        CHECK.due("cell of " + b + " and 9", x.cell(last, 1), p);
        int first = Math.floorMod((int) a, 16);
        CHECK.due("cell of " + a + " and 0", x.cell(first, 1), first == last ? p : q);
        x.putCell(last, 0);
    }

    private static float limited(float value) {
        return Math.max(-1000000.0f, Math.min(1000000.0f, value));
    }

    private static void setsAreQuarters() {
        for (int n = -99; n <= 99; n++) {
            CHECK.due("a=" + n, loaded("a=" + n).register(0, 2), Float.floatToIntBits(n / 4.0f));
        }
    }
}
