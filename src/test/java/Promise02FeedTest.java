/** Promise 2: feed puts twenty bytes on the tape, the highest of a first; false if there are 260. */
public final class Promise02FeedTest {
    public static void main(String[] args) {
        orderOfBytes();
        fullTape();
        fullTapeKeepsItsBytes();
        Probe.finish();
    }

    private static void orderOfBytes() {
        NumberFormats x = new NumberFormats();
        // A format of one that is the only TEXT, so a text is shown whatever its bytes are.
        Probe.format(x, "@");
        Probe.due("feed", x.feed(0x41424344, 0x45464748, 0x494A4B4C, 0x4D4E4F50, 0x51525354), true);
        Probe.due("feed again", x.feed(0x80FF0001, -1, 0, 1, 0x7F000000), true);
        Probe.due("end(40)", x.end(40), true);
        Probe.due("showText", x.showText(), 40);
        for (int k = 0; k < 20; k++) {
            Probe.due("byte " + k, x.output(k), 'A' + k);
        }
        int[] second = {128, 255, 0, 1, 255, 255, 255, 255, 0, 0, 0, 0, 0, 0, 0, 1, 127, 0, 0, 0};
        for (int k = 0; k < 20; k++) {
            Probe.due("byte " + (20 + k), x.output(20 + k), second[k]);
        }
        Probe.due("byte 40", x.output(40), NumberFormats.NONE);
    }

    private static void fullTape() {
        NumberFormats x = new NumberFormats();
        for (int k = 1; k <= 13; k++) {
            Probe.due("feed " + k, x.feed(k, k, k, k, k), true);
        }
        Probe.due("feed 14", x.feed(0, 0, 0, 0, 0), false);
        Probe.due("feed 15", x.feed(0, 0, 0, 0, 0), false);
        Probe.due("end(256) of a full tape", x.end(256), false);
        Probe.due("feed, the tape being full still", x.feed(0, 0, 0, 0, 0), false);
        Probe.due("end(255)", x.end(255), true);
        Probe.due("feed of an empty tape", x.feed(0, 0, 0, 0, 0), true);
    }

    private static void fullTapeKeepsItsBytes() {
        NumberFormats x = new NumberFormats();
        Probe.format(x, "@");
        for (int k = 1; k <= 14; k++) {
            x.feed(0x01010101 * k, 0x01010101 * k, 0x01010101 * k, 0x01010101 * k, 0x01010101 * k);
        }
        x.end(255);
        Probe.due("length", x.showText(), 255);
        for (int k = 0; k < 255; k++) {
            Probe.due("byte " + k, x.output(k), k / 20 + 1);
        }
    }
}
