import java.util.Random;

/** Any calls in any order: only the document's exceptions come, and each call ends. */
public final class AnyCallTest {
    private static final Random RANDOM = new Random(7);
    private static final String LIKELY = "0#?.,%/@E+-\"\\_[];ymdhsGENERALAM/PM<>=0123456789 \u0000\u00ff";
    private static final double[] VALUES = {0, -0.0, 1, -1, 0.5, 1E9, 1E11, 1E-5, 1E300, -1E300, 9E299, 2958465.9999999998,
        2958466, Double.NaN, Double.POSITIVE_INFINITY, Double.NEGATIVE_INFINITY, Double.MIN_VALUE, Double.MAX_VALUE,
        Double.MIN_NORMAL, 123456.789};

    private static int anyInt() {
        switch (RANDOM.nextInt(4)) {
            case 0:
                return RANDOM.nextInt();
            case 1:
                return RANDOM.nextInt(270) - 5;
            case 2:
                return RANDOM.nextBoolean() ? Integer.MIN_VALUE : Integer.MAX_VALUE;
            default:
                return RANDOM.nextInt(6) - 1;
        }
    }

    private static int anyWord() {
        int word = 0;
        for (int k = 0; k < 4; k++) {
            word = word << 8 | LIKELY.charAt(RANDOM.nextInt(LIKELY.length())) & 255;
        }
        return word;
    }

    private static double anyDouble() {
        return RANDOM.nextBoolean() ? VALUES[RANDOM.nextInt(VALUES.length)] : Double.longBitsToDouble(RANDOM.nextLong());
    }

    private static void call(NumberFormats x) {
        switch (RANDOM.nextInt(9)) {
            case 0:
            case 1:
                x.feed(anyWord(), anyWord(), anyWord(), anyWord(), anyWord());
                break;
            case 2:
                x.end(RANDOM.nextBoolean() ? RANDOM.nextInt(24) : anyInt());
                break;
            case 3:
                x.set(anyDouble());
                break;
            case 4:
                x.reckon(anyInt(), anyDouble());
                break;
            case 5:
                boolean ill = false;
                try {
                    x.format();
                } catch (IllegalArgumentException e) {
                    ill = e.getClass() == IllegalArgumentException.class;
                }
                Probe.due("illAt tells what format did", x.illAt() >= 0, ill);
                break;
            case 6:
                show(x);
                break;
            case 7:
                showText(x);
                break;
            default:
                int sign = x.output(anyInt());
                Probe.due("a character", sign >= -1 && sign < 256, true);
                break;
        }
    }

    private static void show(NumberFormats x) {
        try {
            Probe.due("a length", x.show() <= 1024, true);
        } catch (IllegalStateException e) {
            Probe.due("no format", e.getClass(), IllegalStateException.class);
        }
    }

    private static void showText(NumberFormats x) {
        try {
            Probe.due("a length", x.showText() <= 1024, true);
        } catch (IllegalStateException e) {
            Probe.due("no format", e.getClass(), IllegalStateException.class);
        }
    }

    public static void main(String[] args) {
        for (int run = 0; run < 2000; run++) {
            NumberFormats x = new NumberFormats();
            for (int k = 0; k < 512; k++) {
                call(x);
            }
        }
        Probe.finish();
    }
}
