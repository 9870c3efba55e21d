/** Promise 10: output answers a character of the output; NONE if there is none. */
public final class Promise10OutputTest {
    public static void main(String[] args) {
        NumberFormats x = new NumberFormats();
        nothing(x, 0);
        Probe.format(x, "\"\u0080\u00ff\"0");
        nothing(x, 0);
        x.set(42);
        Probe.due("show", x.show(), 4);
        Probe.due("0", x.output(0), 128);
        Probe.due("1", x.output(1), 255);
        Probe.due("2", x.output(2), (int) '4');
        Probe.due("3", x.output(3), (int) '2');
        nothing(x, 4);
        x.set(1);
        Probe.due("the output stays when the value changes", x.output(3), (int) '2');
        Probe.due("an ill text", Probe.format(x, "Q"), "ill 0");
        Probe.due("the output stays then", x.output(3), (int) '2');
        Probe.due("a format", Probe.format(x, "0"), "1");
        Probe.due("the output stays then, too", x.output(3), (int) '2');
        Probe.due("a shorter one", x.show(), 1);
        Probe.due("its first", x.output(0), (int) '1');
        nothing(x, 1);
        Probe.due("the text", x.showText(), 1);
        Probe.due("its first", x.output(0), (int) '0');
        Probe.format(x, "");
        Probe.due("nothing", x.show(), 0);
        nothing(x, 0);
        most(x);
        Probe.finish();
    }

    private static void nothing(NumberFormats x, int from) {
        int[] places = {-1, Integer.MIN_VALUE, from, from + 1, 1023, 1024, 1025, Integer.MAX_VALUE};
        for (int k : places) {
            if (k < 0 || k >= from) {
                Probe.due("output(" + k + ")", x.output(k), NumberFormats.NONE);
            }
        }
    }

    private static void most(NumberFormats x) {
        // 300 digits, each % two more: 300 + 2 * 248 digits and 265 commas are too many.
        Probe.format(x, "#,##0" + "%".repeat(248));
        x.set(9E299);
        Probe.due("the most", x.show(), 1024);
        Probe.due("the first", x.output(0), (int) '9');
        Probe.due("the last", x.output(1023) >= '0' || x.output(1023) == ',', true);
        nothing(x, 1024);
    }
}
