/** Promise 7: illAt tells where the text was ill in the latest format; NONE if it wasn't. */
public final class Promise07IllAtTest {
    public static void main(String[] args) {
        NumberFormats x = new NumberFormats();
        Probe.due("no format yet", x.illAt(), NumberFormats.NONE);
        Probe.due("ill", Probe.format(x, "0.0.0"), "ill 3");
        Probe.due("asked twice", x.illAt(), 3);
        x.set(5);
        Probe.due("no format, so none is shown", Probe.show(x), "none");
        Probe.type(x, "0");
        Probe.due("another text alone changes nothing", x.illAt(), 3);
        Probe.due("a right one", Probe.format(x, "0.0"), "1");
        Probe.due("not ill", x.illAt(), NumberFormats.NONE);
        Probe.due("shown", Probe.show(x), "5.0");
        Probe.due("ill at 0", Probe.format(x, "q"), "ill 0");
        Probe.due("shown by the format before", Probe.show(x), "5.0");
        Probe.due("ill at 0 still", x.illAt(), 0);
        Probe.due("the last place", Probe.format(x, " ".repeat(254) + "\""), "ill 254");
        // The first one from the left counts, and the section's sort is told by all its items.
        Probe.due("two wrong ones", Probe.format(x, "0q0\""), "ill 1");
        Probe.due("told by the last item", Probe.format(x, "\"abc\" 0 q yy"), "ill 6");
        Probe.due("a row too long tells nothing", Probe.format(x, "0 yyyyy"), "ill 2");
        Probe.due("a bracket that is none tells nothing", Probe.format(x, "0 [yy]"), "ill 2");
        Probe.due("another section's items tell nothing", Probe.format(x, "0;d"), "2");
        Probe.due("the first section counts first", Probe.format(x, "0q;\""), "ill 1");
        Probe.finish();
    }
}
