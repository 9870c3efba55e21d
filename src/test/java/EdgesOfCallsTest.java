/**
 * The edges of "Terms" (first paragraph) and of promises 1 to 10 that need no format of a special
 * sort: each sentence of the document that names one has a test of its own.
 */
public final class EdgesOfCallsTest {
    private static final double BOUND = 1E300;
    private static final double MOST = Math.nextDown(BOUND);

    public static void main(String[] args) {
        nothingThere();
        calls512();
        tapeAtMost260();
        highestFirst();
        cutOffLast();
        notSoMany();
        above255();
        emptyThen();
        atFirstZero();
        belowInSize();
        zeroHasNoSign();
        outputAtMost1024();
        newObject();
        setRefuses();
        reckonAsDoubles();
        reckonRefusesWhat();
        reckonRefusesDivisor();
        reckonRefusesSize();
        formatStays();
        illAtNone();
        illAtLatest();
        showWithout();
        showTextWithout();
        outputNone();
        Probe.finish();
    }

    private static boolean feedAll(NumberFormats x, int sign) {
        int word = sign * 0x01010101;
        return x.feed(word, word, word, word, word);
    }

    /** The text of an object whose format is a lone @. */
    private static String text(NumberFormats x) {
        return Probe.showText(x);
    }

    private static NumberFormats with(String format) {
        NumberFormats x = new NumberFormats();
        Probe.format(x, format);
        return x;
    }

    private static void nothingThere() {
        Probe.says("NONE = -1: Nothing there.");
        Probe.due("NONE", NumberFormats.NONE, -1);
    }

    private static void calls512() {
        Probe.says("An object is used for at most 512 calls after it has been made");
        NumberFormats x = new NumberFormats();
        x.feed(0x302E3000, 0, 0, 0, 0);
        x.end(3);
        x.format();
        for (int call = 4; call < 511; call++) {
            Probe.due("call " + call, x.reckon(0, 1), true);
        }
        Probe.due("call 511", x.show(), 5);
        Probe.due("call 512", x.output(0), (int) '5');
    }

    private static void tapeAtMost260() {
        Probe.says("THE TAPE takes bytes, twenty a call, at most 260; feed: false if there are 260.");
        NumberFormats x = with("@");
        for (int k = 1; k <= 13; k++) {
            Probe.due("feed " + k + " of 13", feedAll(x, 'a' + k), true);
        }
        Probe.due("feed of a tape with 260", feedAll(x, 'z'), false);
        Probe.due("and again", feedAll(x, 'z'), false);
        Probe.due("end(255) of it", x.end(255), true);
        String all = text(x);
        Probe.due("the first twenty", all.substring(0, 20), "b".repeat(20));
        Probe.due("the last fifteen, as they were", all.substring(240), "n".repeat(15));
        Probe.due("feed when it is empty again", feedAll(x, 'z'), true);
        Probe.due("end(20)", x.end(20), true);
        Probe.due("from the tape's beginning", text(x), "z".repeat(20));
    }

    private static void highestFirst() {
        Probe.says("Puts twenty bytes on the tape, the highest of a first");
        NumberFormats x = with("@");
        x.feed(Integer.MIN_VALUE, Integer.MAX_VALUE, -1, 0x01020304, 0xFE000080);
        Probe.due("end(20)", x.end(20), true);
        Probe.due("all twenty", text(x), "\u0080\0\0\0\u007f\u00ff\u00ff\u00ff\u00ff\u00ff\u00ff\u00ff"
                + "\u0001\u0002\u0003\u0004\u00fe\0\0\u0080");
    }

    private static void cutOffLast() {
        Probe.says("the TEXT is what was cut off it last");
        NumberFormats x = with("@");
        feedAll(x, 'a');
        x.end(3);
        feedAll(x, 'b');
        Probe.due("bytes on the tape alone", text(x), "aaa");
        x.end(2);
        Probe.due("a shorter one", text(x), "bb");
        // Nothing of a longer text is read behind a shorter one.
        for (String[] row : new String[][] {{"yyyyy", "yyyy"}, {"0.00", "0."}, {"[h]", "["}, {"\"x\"", "\"x"}, {"\\x", "\\"},
            {"AM/PM", "AM/P"}, {"General", "Genera"}, {"0/100", "0/1"}, {"0E+0", "0E"}, {"_x", "_"}, {"0;0", "0"}}) {
            String alone = Probe.format(row[1]);
            Probe.format(x, row[0]);
            Probe.due(row[1] + " after " + row[0], Probe.format(x, row[1]), alone);
        }
    }

    private static void notSoMany() {
        Probe.says("end: false if there are not so many (then it stays)");
        NumberFormats x = with("@");
        Probe.due("end(1) of none", x.end(1), false);
        Probe.due("the text stays", text(x), "@");
        feedAll(x, 'a');
        Probe.due("end(21) of 20", x.end(21), false);
        Probe.due("the text stays", text(x), "@");
        Probe.due("end(20) of 20, for the tape stays", x.end(20), true);
        Probe.due("all of it", text(x), "a".repeat(20));
        feedAll(x, 'b');
        for (int n : new int[] {-1, -20, Integer.MIN_VALUE, Integer.MAX_VALUE}) {
            Probe.due("end(" + n + ")", x.end(n), false);
        }
        Probe.due("the text stays", text(x), "a".repeat(20));
        Probe.due("end(0)", x.end(0), true);
        Probe.due("the empty text", text(x), "");
    }

    private static void above255() {
        Probe.says("end: false if .. n is above 255 (then it stays)");
        NumberFormats x = with("@");
        for (int k = 0; k < 13; k++) {
            feedAll(x, 'a' + k);
        }
        Probe.due("end(260)", x.end(260), false);
        Probe.due("end(256)", x.end(256), false);
        Probe.due("the text stays", text(x), "@");
        Probe.due("the tape stays full", feedAll(x, 'z'), false);
        Probe.due("end(255)", x.end(255), true);
        Probe.due("255 bytes", text(x).length(), 255);
        Probe.due("the last of them", text(x).charAt(254), 'm');
    }

    private static void emptyThen() {
        Probe.says("The text becomes the first n bytes of the tape, which is empty then");
        NumberFormats x = with("@");
        feedAll(x, 'a');
        Probe.due("end(5)", x.end(5), true);
        Probe.due("nothing is left of 20", x.end(1), false);
        Probe.due("end(0) of none", x.end(0), true);
        Probe.due("the empty text", text(x), "");
        feedAll(x, 'b');
        Probe.due("end(0) of 20", x.end(0), true);
        Probe.due("nothing is left then, too", x.end(1), false);
        Probe.due("the empty text again", text(x), "");
    }

    private static void atFirstZero() {
        Probe.says("The VALUE is a double v, at first 0.0");
        Probe.due("shown", Probe.show(with("General")), "0");
        Probe.due("asked", Probe.show(with("[=0]\"nought\"")), "nought");
    }

    private static void belowInSize() {
        Probe.says("with |v| below 1E300");
        NumberFormats x = with("0");
        Probe.due("the most", x.set(MOST), true);
        Probe.due("its digits", x.show(), 300);
        Probe.due("its first digit", x.output(0), (int) '9');
        Probe.due("the least", x.set(-MOST), true);
        Probe.due("its sign and digits", x.show(), 301);
        Probe.due("1E300", x.set(BOUND), false);
        Probe.due("-1E300", x.set(-BOUND), false);
        Probe.due("the value stays", x.show(), 301);
    }

    private static void zeroHasNoSign() {
        Probe.says("(a zero has no sign)");
        NumberFormats x = with("General;\"below\";\"zero\"");
        x.set(-0.0);
        Probe.due("-0.0", Probe.show(x), "zero");
        x.set(-Double.MIN_VALUE);
        Probe.due("below 0", Probe.show(x), "below");
        Probe.due("-4.9E-324 / 2", x.reckon(3, 2), true);
        Probe.due("it is 0", Probe.show(x), "zero");
        x.set(0.0);
        Probe.due("0 * -1", x.reckon(2, -1), true);
        Probe.due("it is 0 still", Probe.show(x), "zero");
        Probe.due("0 / -7", x.reckon(3, -7), true);
        Probe.due("it is 0 once more", Probe.show(x), "zero");
        Probe.format(x, "General");
        Probe.due("without a sign", Probe.show(x), "0");
        Probe.format(x, "yyyy");
        Probe.due("not below 0", Probe.show(x), "1899");
    }

    private static void outputAtMost1024() {
        Probe.says("The OUTPUT is a row of at most 1024 characters (others are left out).");
        // Four texts of 255 characters are 1020.
        for (int more = 3; more <= 6; more++) {
            NumberFormats x = with("@@@@" + "123456".substring(0, more).replaceAll("(.)", "\\\\$1"));
            Probe.type(x, "y".repeat(255));
            int due = Math.min(1024, 1020 + more);
            Probe.due("a text and " + more, x.showText(), due);
            Probe.due("its first", x.output(0), (int) 'y');
            Probe.due("its last", x.output(due - 1), '0' + due - 1020);
            Probe.due("behind it", x.output(due), NumberFormats.NONE);
        }
        // The digits of the number, 508 noughts more for 254 %, and these.
        for (int power = 260; power <= 263; power++) {
            NumberFormats x = with("0" + "%".repeat(254));
            x.set(Double.parseDouble("2.5E" + power));
            Probe.due("2.5E" + power, x.show(), Math.min(1024, power + 1 + 508 + 254));
            Probe.due("behind it", x.output(1024), NumberFormats.NONE);
            Probe.due("the last sign", x.output(power + 1 + 508 + 254 > 1024 ? 1023 : power + 762), (int) '%');
        }
    }

    private static void newObject() {
        Probe.says("Promise 1: Nothing on the tape, an empty text, no format, no output.");
        NumberFormats x = new NumberFormats();
        Probe.due("nothing on the tape", x.end(1), false);
        Probe.due("no output", x.output(0), NumberFormats.NONE);
        Probe.due("no format", Probe.show(x), "none");
        Probe.due("no format for texts", Probe.showText(x), "none");
        Probe.due("an empty text", x.format(), 1);
        Probe.due("shown as it is", x.showText(), 0);
        Probe.due("all 260 are free", fill(new NumberFormats()), 13);
    }

    private static int fill(NumberFormats x) {
        int n = 0;
        while (n < 20 && feedAll(x, 0)) {
            n++;
        }
        return n;
    }

    private static void setRefuses() {
        Probe.says("set: The VALUE becomes v; false unless it is below 1E300 in size.");
        NumberFormats x = with("General");
        Probe.due("set(2.5)", x.set(2.5), true);
        double[] refused = {BOUND, -BOUND, Double.MAX_VALUE, -Double.MAX_VALUE, Double.POSITIVE_INFINITY,
            Double.NEGATIVE_INFINITY, Double.NaN};
        for (double v : refused) {
            Probe.due("set(" + v + ")", x.set(v), false);
            Probe.due("the value stays", Probe.show(x), "2.5");
        }
        Probe.due("the smallest one", x.set(Double.MIN_VALUE), true);
        Probe.due("it is the value", Probe.show(x), "4.94066E-324");
    }

    private static void reckonAsDoubles() {
        Probe.says("reckon: itself + v (what 0), - v (1), * v (2), / v (3), as doubles");
        NumberFormats x = with("0.####################");
        x.set(9007199254740992.0);
        Probe.due("2^53 + 1", x.reckon(0, 1), true);
        Probe.due("has no room for 1", Probe.show(x), "9007199254740992.");
        x.set(-9007199254740992.0);
        Probe.due("-2^53 - 1", x.reckon(1, 1), true);
        Probe.due("has no room for it either", Probe.show(x), "-9007199254740992.");
        x.set(0.1);
        Probe.due("0.1 * 3", x.reckon(2, 3), true);
        Probe.due("is more than 0.3", Probe.show(x), "0.30000000000000004441");
        x.set(Double.MIN_VALUE);
        Probe.due("the smallest / 2", x.reckon(3, 2), true);
        Probe.due("is 0", Probe.show(x), "0.");
        x.set(1);
        Probe.due("1 / 49", x.reckon(3, 49), true);
        Probe.due("* 49", x.reckon(2, 49), true);
        Probe.due("is less than 1", Probe.show(x), "0.99999999999999988898");
    }

    private static void reckonRefusesWhat() {
        Probe.says("reckon: false, changing nothing, if what isn't 0 .. 3");
        NumberFormats x = with("General");
        x.set(2.5);
        for (int what : new int[] {-1, 4, 5, Integer.MIN_VALUE, Integer.MAX_VALUE}) {
            Probe.due("reckon(" + what + ", 1)", x.reckon(what, 1), false);
            Probe.due("nothing changes", Probe.show(x), "2.5");
        }
        String[] due = {"4.5", "2.5", "5", "2.5"};
        for (int what = 0; what < 4; what++) {
            Probe.due("reckon(" + what + ", 2)", x.reckon(what, 2), true);
            Probe.due("the value", Probe.show(x), due[what]);
        }
    }

    private static void reckonRefusesDivisor() {
        Probe.says("reckon: false, changing nothing, if .. v is 0 with what 3");
        NumberFormats x = with("General");
        for (double v : new double[] {2.5, 0, -1}) {
            x.set(v);
            String before = Probe.show(x);
            Probe.due(v + " / 0.0", x.reckon(3, 0.0), false);
            Probe.due(v + " / -0.0", x.reckon(3, -0.0), false);
            Probe.due("nothing changes", Probe.show(x), before);
        }
        x.set(2.5);
        Probe.due("2.5 + 0", x.reckon(0, 0), true);
        Probe.due("2.5 - 0", x.reckon(1, 0), true);
        Probe.due("the value", Probe.show(x), "2.5");
        Probe.due("2.5 * 0", x.reckon(2, 0), true);
        Probe.due("the value", Probe.show(x), "0");
        Probe.due("0 / the smallest", x.reckon(3, Double.MIN_VALUE), true);
        Probe.due("the value", Probe.show(x), "0");
    }

    private static void refuses(NumberFormats x, double before, int what, double v) {
        x.set(before);
        String shown = Probe.show(x);
        Probe.due(before + ", reckon(" + what + ", " + v + ")", x.reckon(what, v), false);
        Probe.due("nothing changes", Probe.show(x), shown);
    }

    private static void reckonRefusesSize() {
        Probe.says("reckon: false, changing nothing, if .. it wouldn't be below 1E300 in size");
        NumberFormats x = with("General");
        refuses(x, 0, 0, BOUND);
        refuses(x, 0, 1, BOUND);
        refuses(x, 1, 2, BOUND);
        refuses(x, 1, 2, -BOUND);
        refuses(x, 2, 3, 1E-300);
        refuses(x, -2, 3, 1E-300);
        refuses(x, 2, 3, -1E-300);
        refuses(x, MOST, 0, MOST);
        refuses(x, MOST, 1, -MOST);
        refuses(x, MOST, 2, MOST);
        refuses(x, MOST, 3, Double.MIN_VALUE);
        for (int what = 0; what < 4; what++) {
            refuses(x, 2.5, what, Double.NaN);
            refuses(x, 0, what, Double.NaN);
        }
        for (int what = 0; what < 3; what++) {
            refuses(x, 0, what, Double.POSITIVE_INFINITY);
            refuses(x, 0, what, Double.NEGATIVE_INFINITY);
            refuses(x, -2.5, what, Double.POSITIVE_INFINITY);
        }
        x.set(0);
        Probe.due("0 + most", x.reckon(0, MOST), true);
        Probe.due("most - 1E300, below it in size", x.reckon(1, BOUND), true);
        Probe.due("- 1E300 + most", x.reckon(0, MOST), true);
        Probe.due("most / 1E308", x.reckon(3, 1E308), true);
        Probe.due("* 1E307, below 1E300 still", x.reckon(2, 1E307), true);
        Probe.due("the value", Probe.show(x), "1E+299");
    }

    private static void formatStays() {
        Probe.says("format: IllegalArgumentException: it is ILL (the format stays).");
        NumberFormats x = new NumberFormats();
        x.set(1.5);
        Probe.due("ill before any", Probe.format(x, "x"), "ill 0");
        Probe.due("there is none still", Probe.show(x), "none");
        Probe.due("there is none for texts", Probe.showText(x), "none");
        Probe.format(x, "0.00;;;\"t\"@");
        Probe.due("ill", Probe.format(x, "yyyy;0x"), "ill 6");
        Probe.due("the format stays", Probe.show(x), "1.50");
        Probe.due("it shows texts, too", Probe.showText(x), "tyyyy;0x");
        Probe.due("ill again", Probe.format(x, ";;;;"), "ill 3");
        Probe.due("the format stays again", Probe.show(x), "1.50");
        Probe.due("another", Probe.format(x, "0"), "1");
        Probe.due("by it", Probe.show(x), "2");
    }

    private static void illAtNone() {
        Probe.says("illAt: NONE if it wasn't, or there was none.");
        NumberFormats x = new NumberFormats();
        Probe.due("there was none", x.illAt(), NumberFormats.NONE);
        Probe.type(x, "x");
        Probe.due("a text is none", x.illAt(), NumberFormats.NONE);
        Probe.due("ill", Probe.format(x, "x"), "ill 0");
        Probe.due("not ill", Probe.format(x, "0"), "1");
        Probe.due("it wasn't", x.illAt(), NumberFormats.NONE);
        Probe.due("not ill, though empty", Probe.format(x, ""), "1");
        Probe.due("it wasn't", x.illAt(), NumberFormats.NONE);
    }

    private static void illAtLatest() {
        Probe.says("illAt: The place where the text was ILL in the latest format");
        NumberFormats x = new NumberFormats();
        Probe.due("the first place", Probe.format(x, "x"), "ill 0");
        Probe.due("the last place of all", Probe.format(x, "0".repeat(254) + "x"), "ill 254");
        Probe.type(x, "0");
        x.set(3);
        Probe.show(x);
        Probe.due("other calls change nothing", x.illAt(), 254);
        Probe.due("the same text again", Probe.format(x, "00x"), "ill 2");
        Probe.due("twice as before", x.illAt(), 2);
    }

    private static void showWithout() {
        Probe.says("show: IllegalStateException: there is none.");
        NumberFormats x = new NumberFormats();
        x.set(5);
        boolean thrown = false;
        try {
            x.show();
        } catch (IllegalStateException e) {
            thrown = e.getClass() == IllegalStateException.class;
        }
        Probe.due("show() throws", thrown, true);
        Probe.due("no output", x.output(0), NumberFormats.NONE);
        Probe.due("with a format", Probe.format(x, "0"), "1");
        Probe.due("it shows", x.show(), 1);
    }

    private static void showTextWithout() {
        Probe.says("showText: IllegalStateException: there is none.");
        NumberFormats x = new NumberFormats();
        Probe.type(x, "abc");
        boolean thrown = false;
        try {
            x.showText();
        } catch (IllegalStateException e) {
            thrown = e.getClass() == IllegalStateException.class;
        }
        Probe.due("showText() throws", thrown, true);
        Probe.due("no output", x.output(0), NumberFormats.NONE);
        Probe.due("with a format", Probe.format(x, ""), "1");
        Probe.due("it shows", x.showText(), 0);
    }

    private static void outputNone() {
        Probe.says("output: A character of the output; NONE if there is none.");
        NumberFormats x = with("\"\u00ff\u0001\"0");
        Probe.due("show", x.show(), 3);
        int[] row = {255, 1, '0'};
        for (int k = 0; k < 3; k++) {
            Probe.due("output(" + k + ")", x.output(k), row[k]);
        }
        for (int k : new int[] {-1, 3, 4, 1023, 1024, Integer.MIN_VALUE, Integer.MAX_VALUE}) {
            Probe.due("output(" + k + ")", x.output(k), NumberFormats.NONE);
        }
        Probe.format(x, "#");
        Probe.due("nothing is shown", x.show(), 0);
        Probe.due("none of a longer one before", x.output(0), NumberFormats.NONE);
    }
}
