/** Promise 1: a new object has nothing on the tape, an empty text, no format, no output. */
public final class Promise01NewObjectTest {
    public static void main(String[] args) {
        NumberFormats x = new NumberFormats();
        Probe.due("NONE", NumberFormats.NONE, -1);
        Probe.due("output(0)", x.output(0), NumberFormats.NONE);
        Probe.due("illAt()", x.illAt(), NumberFormats.NONE);
        Probe.due("show without a format", Probe.show(x), "none");
        Probe.due("showText without a format", Probe.showText(x), "none");
        Probe.due("end(1) of an empty tape", x.end(1), false);
        Probe.due("format of an empty text", x.format(), 1);
        Probe.due("an empty format shows", Probe.show(x), "");
        Probe.due("an empty format shows the empty text", Probe.showText(x), "");
        x = new NumberFormats();
        Probe.due("format", Probe.format(x, "0.0"), "1");
        Probe.due("the first value", Probe.show(x), "0.0");
        NumberFormats other = new NumberFormats();
        Probe.due("two objects share nothing", Probe.show(other), "none");
        Probe.finish();
    }
}
