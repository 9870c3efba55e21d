/** Promise 4: set makes v the value; false unless it is below 1E300 in size. */
public final class Promise04SetTest {
    public static void main(String[] args) {
        NumberFormats x = new NumberFormats();
        Probe.format(x, "General");
        Probe.due("set(7.25)", x.set(7.25), true);
        Probe.due("7.25", Probe.show(x), "7.25");
        double[] wrong = {Double.NaN, Double.POSITIVE_INFINITY, Double.NEGATIVE_INFINITY, 1E300, -1E300,
            Double.MAX_VALUE, -Double.MAX_VALUE};
        for (double v : wrong) {
            Probe.due("set(" + v + ")", x.set(v), false);
            Probe.due("the value stays", Probe.show(x), "7.25");
        }
        double most = Math.nextDown(1E300);
        Probe.due("the most", x.set(most), true);
        Probe.due("the most shown", Probe.show(x), "1E+300");
        Probe.due("the least", x.set(-most), true);
        Probe.due("the least shown", Probe.show(x), "-1E+300");
        Probe.due("the smallest", x.set(Double.MIN_VALUE), true);
        Probe.due("the smallest shown", Probe.show(x), "4.94066E-324");
        Probe.due("-0.0", x.set(-0.0), true);
        Probe.due("a zero has no sign", Probe.show(x), "0");
        // 1 / -0.0 would be refused as well, so a condition asks.
        Probe.format(x, "[=0]\"zero\"");
        Probe.due("-0.0 is 0", Probe.show(x), "zero");
        Probe.finish();
    }
}
