/** Promise 5: reckon adds, takes, multiplies and divides as doubles. */
public final class Promise05ReckonTest {
    private static final String FORMAT = "0." + "#".repeat(60);
    private static NumberFormats x;
    private static double now;

    public static void main(String[] args) {
        x = new NumberFormats();
        Probe.format(x, FORMAT);
        reckons(0, 0.1, now + 0.1);
        reckons(0, 0.2, now + 0.2);
        Probe.due("0.1 + 0.2 as doubles", Probe.show(x).startsWith("0.3000000000000000444"), true);
        reckons(1, 0.3, now - 0.3);
        reckons(2, 1E20, now * 1E20);
        reckons(1, now - 1, now - (now - 1));
        reckons(3, 3, now / 3);
        reckons(2, -3, now * -3);
        Probe.due("-1 third * 3 as doubles", Probe.show(x), "-1.");
        reckons(1, -5.5, 4.5);
        reckons(3, -2, -2.25);
        reckons(3, 1, -2.25);
        reckons(2, 1, -2.25);
        refused();
        edges();
        Probe.finish();
    }

    /** The value must be as if it had been set. */
    private static void reckons(int what, double v, double want) {
        now = want;
        Probe.due("reckon(" + what + ", " + v + ")", x.reckon(what, v), true);
        Probe.due("the value", Probe.show(x), Probe.show(FORMAT, want));
    }

    private static void refuses(int what, double v) {
        String before = Probe.show(x);
        Probe.due("reckon(" + what + ", " + v + ")", x.reckon(what, v), false);
        Probe.due("nothing changes", Probe.show(x), before);
    }

    private static void refused() {
        x.set(2.5);
        for (int what : new int[] {-1, 4, Integer.MIN_VALUE, Integer.MAX_VALUE}) {
            refuses(what, 1);
        }
        refuses(3, 0.0);
        refuses(3, -0.0);
        for (int what = 0; what < 4; what++) {
            refuses(what, Double.NaN);
        }
        for (int what = 0; what < 3; what++) {
            refuses(what, Double.POSITIVE_INFINITY);
            refuses(what, Double.NEGATIVE_INFINITY);
        }
        refuses(0, 1E300);
        refuses(1, -1E300);
        refuses(2, 1E300);
        refuses(2, Double.MAX_VALUE);
        refuses(3, Double.MIN_VALUE);
        refuses(3, 1E-300);
        x.set(0);
        refuses(2, Double.POSITIVE_INFINITY);
    }

    private static void edges() {
        Probe.format(x, "General");
        x.set(2.5);
        Probe.due("divided by what has no end", x.reckon(3, Double.NEGATIVE_INFINITY), true);
        Probe.due("it is 0", Probe.show(x), "0");
        x.set(-5);
        Probe.due("-5 * 0", x.reckon(2, 0), true);
        Probe.due("a zero has no sign", Probe.show(x), "0");
        Probe.due("0 + most", x.reckon(0, Math.nextDown(1E300)), true);
        Probe.due("most / 1E300", x.reckon(3, 1E300), true);
        Probe.due("rounded as a double", Probe.show(x), "1");
        x.set(5);
        Probe.due("5 - most", x.reckon(1, Math.nextDown(1E300)), true);
        Probe.due("-most", Probe.show(x), "-1E+300");
    }
}
