/** Promise 3: end makes the first n bytes of the tape the text, and empties the tape. */
public final class Promise03EndTest {
    public static void main(String[] args) {
        NumberFormats x = new NumberFormats();
        Probe.format(x, "@");
        x.feed(0x61626364, 0, 0, 0, 0);
        Probe.due("end(21), too many", x.end(21), false);
        Probe.due("end(-1)", x.end(-1), false);
        Probe.due("end(MIN)", x.end(Integer.MIN_VALUE), false);
        Probe.due("end(MAX)", x.end(Integer.MAX_VALUE), false);
        Probe.due("the text stays", Probe.showText(x), "@");
        Probe.due("end(3)", x.end(3), true);
        Probe.due("the text", Probe.showText(x), "abc");
        Probe.due("the tape is empty then", x.end(1), false);
        Probe.due("the text stays again", Probe.showText(x), "abc");
        Probe.due("end(0) of an empty tape", x.end(0), true);
        Probe.due("an empty text", Probe.showText(x), "");
        x.feed(0x61626364, 0, 0, 0, 0);
        Probe.due("end(0)", x.end(0), true);
        Probe.due("an empty text again", Probe.showText(x), "");
        Probe.due("end(0) empties the tape", x.end(1), false);
        x.feed(0x61616161, 0x61616161, 0x61616161, 0x61616161, 0x61616161);
        Probe.due("end(20), all", x.end(20), true);
        Probe.due("all twenty", Probe.showText(x), "a".repeat(20));
        for (int k = 0; k < 13; k++) {
            x.feed(0x62626262, 0x62626262, 0x62626262, 0x62626262, 0x62626262);
        }
        Probe.due("end(260)", x.end(260), false);
        Probe.due("end(256)", x.end(256), false);
        Probe.due("the text stays a third time", Probe.showText(x), "a".repeat(20));
        Probe.due("end(255)", x.end(255), true);
        Probe.due("255 bytes", Probe.showText(x), "b".repeat(255));
        Probe.finish();
    }
}
