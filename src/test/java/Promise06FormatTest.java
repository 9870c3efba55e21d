/** Promise 6 (and the places of promise 7): which texts are formats, and of how many sections. */
public final class Promise06FormatTest {
    public static void main(String[] args) {
        sections();
        items();
        conditions();
        dates();
        words();
        numbers();
        exponents();
        fractions();
        allSigns();
        theFormatStays();
        Probe.finish();
    }

    private static void sections() {
        Probe.formats("", "1");
        Probe.formats(";", "2");
        Probe.formats(";;", "3");
        Probe.formats(";;;", "4");
        Probe.formats(";;;;", "ill 3");
        Probe.formats("0;0;0;@;0", "ill 7");
        Probe.formats("0;0;0;\"x\";0;;", "ill 9");
        Probe.formats("0;0;0;@;Q", "ill 7");
        Probe.formats("0;0;0;0;", "ill 6");
        Probe.formats(";;;\"x\"@", "4");
        Probe.formats(";;;General", "ill 3");
        Probe.formats(";;;\"\"0", "ill 5");
        Probe.formats(";;;\"a\"0", "ill 4");
        Probe.formats(";;;\"a\"yy", "ill 4");
        Probe.formats(";;;x0", "ill 3");
        Probe.formats(";;;[>0]@", "ill 3");
        Probe.formats("\";\";\\;;_;", "3");
    }

    private static void items() {
        Probe.formats("\"", "ill 0");
        Probe.formats("0\"", "ill 1");
        Probe.formats("0\"a", "ill 1");
        Probe.formats("\"a\"\"b\"0", "1");
        Probe.formats("\\", "ill 0");
        Probe.formats("0\\", "ill 1");
        Probe.formats("0_", "ill 1");
        Probe.formats("0_\\", "1");
        Probe.formats("[", "ill 0");
        Probe.formats("0[>1", "ill 1");
        Probe.formats("]", "ill 0");
        Probe.formats("[]", "ill 0");
        Probe.formats("[Red]0", "ill 0");
        Probe.formats("[hm]", "ill 0");
        Probe.formats("[hhh]", "ill 0");
        Probe.formats("[y]", "ill 0");
        Probe.formats("[H][Mm][sS]", "1");
        Probe.formats("x", "ill 0");
        Probe.formats("0E0", "ill 1");
        Probe.formats("0Ed", "ill 0");
        Probe.formats("0x+0", "ill 1");
        Probe.formats("Genera", "ill 0");
        Probe.formats("GENERALgeneral", "ill 7");
        Probe.formats("gEnErAl", "1");
        Probe.formats("A", "ill 0");
        Probe.formats("xeneral", "ill 0");
        Probe.formats("Generax", "ill 0");
        Probe.formats("BM/PM", "ill 0");
        Probe.formats("P/P", "ill 0");
        Probe.formats("am/p", "ill 0");
        Probe.formats("h am/PM", "1");
        Probe.formats("h a/P", "1");
        Probe.formats("5", "ill 0");
        Probe.formats("05", "ill 1");
        Probe.formats("`", "ill 0");
        Probe.formats("0\u0007", "ill 1");
    }

    private static void conditions() {
        String[] right = {"[<5]", "[<=5]", "[=5]", "[<>5]", "[>=5]", "[>5]", "[>-5]", "[>123456789.123456789]", "[=0.0]"};
        for (String condition : right) {
            Probe.formats(condition + "0", "1");
            Probe.formats("0;" + condition + "0", "2");
            Probe.formats("0" + condition, "ill 1");
            Probe.formats(";;" + condition + "0", "ill 2");
        }
        String[] wrong = {"[5]", "[<]", "[=<5]", "[><5]", "[>+5]", "[>.5]", "[>5.]", "[> 5]", "[>5 ]", "[>1234567890]",
            "[>1.1234567890]", "[>--5]", "[==5]", "[>5.5.5]", "[>5E3]", "[>]", "[-5]", "[<>=5]"};
        for (String condition : wrong) {
            Probe.formats(condition + "0", "ill 0");
        }
        Probe.formats("[>5][<7]0", "ill 4");
        Probe.formats("\"\"[>5]0", "1");
        Probe.formats("\"x\"[>5]0", "ill 3");
        Probe.formats("[>5]", "1");
        Probe.formats("[>5]@;[<1]yy;General", "3");
    }

    private static void dates() {
        Probe.formats("y yy yyy yyyy m mm mmm mmmm mmmmm d dd ddd dddd h hh s ss", "1");
        Probe.formats("Yy MmM dD Hh Ss", "1");
        Probe.formats("yyyyy", "ill 0");
        Probe.formats("0yyyyy", "ill 1");
        Probe.formats("mmmmmm", "ill 0");
        Probe.formats("ddddd", "ill 0");
        Probe.formats("hhh", "ill 0");
        Probe.formats("d sss", "ill 2");
        Probe.formats("yyyy/mm/dd, h.mm", "1");
        Probe.formats("ss.000", "1");
        Probe.formats("s.0 [s].00 [ss].000 ss.0", "1");
        Probe.formats("ss.0000", "ill 6");
        Probe.formats("ss.#", "ill 3");
        Probe.formats("ss.0#", "ill 4");
        Probe.formats("ss.", "1");
        Probe.formats("ss .0", "ill 4");
        Probe.formats("ss..0", "ill 4");
        Probe.formats("mm.0", "ill 3");
        Probe.formats("0 d", "ill 0");
        Probe.formats("d 0", "ill 2");
        Probe.formats("0[h]", "ill 0");
        Probe.formats("? AM/PM", "ill 0");
        Probe.formats("# a/p", "ill 0");
        Probe.formats("d%", "ill 1");
        Probe.formats("dE+", "ill 1");
        Probe.formats("d@", "ill 1");
        Probe.formats("dGeneral", "ill 1");
        Probe.formats("d/1", "ill 2");
        Probe.formats("%d", "ill 0");
        Probe.formats("x0d", "ill 0");
        Probe.formats("0xd", "ill 0");
        Probe.formats("0 \"d\" \\d _d", "1");
    }

    private static void words() {
        Probe.formats("@@ .,/%", "1");
        Probe.formats("0@", "ill 0");
        Probe.formats("@0", "ill 1");
        Probe.formats("@E+", "ill 1");
        Probe.formats("General .,/%", "1");
        Probe.formats("General0", "ill 7");
        Probe.formats("#General", "ill 0");
        Probe.formats("GeneralE-", "ill 7");
        Probe.formats("\"a\".,/%(){}", "1");
        Probe.formats("E+", "ill 0");
        Probe.formats("/5", "ill 1");
        Probe.formats("@/5", "ill 2");
        Probe.formats("General/12", "ill 8");
    }

    private static void numbers() {
        Probe.formats("#,##0.00", "1");
        Probe.formats("0.0.0", "ill 3");
        Probe.formats("0.00.0", "ill 4");
        Probe.formats("..0", "ill 1");
        Probe.formats("%0%,,.?%,#,", "1");
        Probe.formats(".0", "1");
        Probe.formats("0-0 (0)", "1");
        Probe.formats("0.", "1");
    }

    private static void exponents() {
        Probe.formats("0E+0", "1");
        Probe.formats("0.0e-000", "1");
        Probe.formats("0E+0000", "ill 6");
        Probe.formats("0E+", "ill 1");
        Probe.formats("0E+;0", "ill 1");
        Probe.formats("E+0", "ill 0");
        Probe.formats("0.E+0", "ill 2");
        Probe.formats("0,E+0", "ill 2");
        Probe.formats("0 E+0", "ill 2");
        Probe.formats("0E+ 0", "ill 1");
        Probe.formats("0E+0 ", "ill 4");
        Probe.formats("0E+0.0", "ill 4");
        Probe.formats("0E+0E+0", "ill 4");
        Probe.formats("0E+0%", "ill 4");
        Probe.formats("0E+0\"\"", "1");
        Probe.formats("0E+0Q", "ill 4");
        Probe.formats("0E+Q0", "ill 1");
        Probe.formats("0%E+0", "ill 2");
        Probe.formats("0E+0?#", "1");
    }

    private static void fractions() {
        Probe.formats("?/?", "1");
        Probe.formats("# ??/???", "1");
        Probe.formats("0/123", "1");
        Probe.formats("0/100 \"x\"-", "1");
        Probe.formats("0/1000", "ill 5");
        Probe.formats("0/1234", "ill 5");
        Probe.formats("0/012", "ill 3");
        Probe.formats("?/????", "ill 5");
        Probe.formats("?/? ?", "ill 4");
        Probe.formats("?/8?", "ill 3");
        Probe.formats("?/?8", "ill 3");
        Probe.formats("0 /?", "ill 2");
        Probe.formats("/0", "ill 0");
        Probe.formats("0/", "ill 1");
        Probe.formats("0/ 0", "ill 1");
        Probe.formats("0/\"8\"", "ill 1");
        Probe.formats("0/?/?", "ill 3");
        Probe.formats("0.0/?", "ill 1");
        Probe.formats("0.0/x", "ill 3");
        Probe.formats("0.0 /?", "ill 4");
        Probe.formats("0,0/?", "ill 1");
        Probe.formats("%0/?", "ill 0");
        Probe.formats("0/?%", "ill 3");
        Probe.formats("0/?.", "ill 3");
        Probe.formats("0/?E+0", "ill 3");
        Probe.formats("0\"/\"5", "ill 4");
    }

    /** By itself each character is a format of one section or ill; two more are rows begun. */
    private static void allSigns() {
        String right = "0#?.,%/@yYmMdDhHsS!$&'()*+-:<=>^{|}~ ";
        for (int sign = 0; sign < 256; sign++) {
            boolean well = right.indexOf(sign) >= 0 || sign > 126;
            Probe.formats("" + (char) sign, sign == ';' ? "2" : well ? "1" : "ill 0");
            Probe.formats("\\" + (char) sign, "1");
            Probe.formats("_" + (char) sign, "1");
            Probe.formats("\"" + (char) sign + "\"", sign == '"' ? "ill 2" : "1");
        }
    }

    private static void theFormatStays() {
        NumberFormats x = new NumberFormats();
        x.set(0.5);
        Probe.due("ill at first", Probe.format(x, "0x"), "ill 1");
        Probe.due("no format still", Probe.show(x), "none");
        Probe.due("right", Probe.format(x, "0.00;[>1]yy;\"n\""), "3");
        Probe.due("ill again", Probe.format(x, "yyyy;Q"), "ill 5");
        Probe.due("the format stays", Probe.show(x), "0.50");
        Probe.due("the format is read off the text again", Probe.format(x, "0%"), "1");
        Probe.due("shown by it", Probe.show(x), "50%");
        Probe.due("255 items", Probe.format(x, "0".repeat(255)), "1");
        Probe.due("255 items shown", Probe.show(x).length(), 255);
    }
}
