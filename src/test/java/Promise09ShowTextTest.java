/** Promise 9: showText shows the text by the fourth section, or a TEXT that is the only one. */
public final class Promise09ShowTextTest {
    public static void main(String[] args) {
        NumberFormats x = new NumberFormats();
        Probe.due("without a format", Probe.showText(x), "none");
        Probe.showsText("@", "abc", "abc");
        Probe.showsText("\"<\"@\">\"", "abc", "<abc>");
        Probe.showsText("@ @", "abc", "abc abc");
        Probe.showsText("@.,/%", "a", "a.,/%");
        Probe.showsText("_x@\\!", "a", " a!");
        Probe.showsText("[>5]@@", "a", "aa");
        Probe.showsText("0.00", "abc", "abc");
        Probe.showsText("General", "abc", "abc");
        Probe.showsText("\"x\"", "abc", "abc");
        Probe.showsText("", "abc", "abc");
        Probe.showsText("0;@", "abc", "abc");
        Probe.showsText("@;\"x\"", "abc", "abc");
        Probe.showsText("0;0;\"x\"@", "abc", "abc");
        Probe.showsText("0;0;0;\"x\"@", "abc", "xabc");
        Probe.showsText("@;@;@;\"x\"", "abc", "x");
        Probe.showsText("0;0;0;", "abc", "");
        Probe.showsText(";;;(@)/.", "", "()/.");
        Probe.showsText("@", "", "");
        Probe.showsText("@", "\u0000\u00ff\";", "\u0000\u00ff\";");
        Probe.due("the text is that of the format, too", Probe.format(x, "\"a\"@"), "1");
        Probe.due("shown by itself", Probe.showText(x), "a\"a\"@");
        Probe.due("the number is not changed", Probe.show(x), "a0");
        // 6 times 255 characters: the first 1024 stay.
        Probe.format(x, "@@@@@@");
        Probe.type(x, "y".repeat(254) + "z");
        Probe.due("the most", x.showText(), 1024);
        Probe.due("the last but five", x.output(1019), (int) 'z');
        Probe.due("the last", x.output(1023), (int) 'y');
        Probe.due("none behind it", x.output(1024), NumberFormats.NONE);
        Probe.finish();
    }
}
