/** Promise 8: show shows the value by the format, rounded from its exact value. */
public final class Promise08ShowTest {
    public static void main(String[] args) {
        Probe.due("without a format", Probe.show(new NumberFormats()), "none");
        sections();
        conditions();
        signs();
        plain();
        digits();
        rounding();
        scales();
        groups();
        exponents();
        fractions();
        fractionEdges();
        days();
        times();
        minutes();
        dateEdges();
        general();
        sizes();
        Probe.finish();
    }

    private static void sections() {
        Probe.shows("\"a\"", 5, "a");
        Probe.shows("\"a\"", -5, "a");
        Probe.shows("\"a\";\"b\"", 5, "a");
        Probe.shows("\"a\";\"b\"", 0, "a");
        Probe.shows("\"a\";\"b\"", -5, "b");
        Probe.shows("\"a\";\"b\";\"c\"", 5, "a");
        Probe.shows("\"a\";\"b\";\"c\"", 0, "c");
        Probe.shows("\"a\";\"b\";\"c\"", -5, "b");
        Probe.shows("\"a\";\"b\";\"c\";\"d\"", 0, "c");
        Probe.shows("0;;\"z\"", -5, "");
        Probe.shows("", 5, "");
        Probe.shows("#,##0.00;(0);\"none\"", -7.5, "(8)");
    }

    private static void conditions() {
        Probe.shows("[>100]\"big\"", 101, "big");
        Probe.shows("[>100]\"big\"", 100, "100");
        Probe.shows("[>100]\"big\"", -7.25, "-7.25");
        Probe.shows("[>=100]\"big\";\"small\"", 100, "big");
        Probe.shows("[>=100]\"big\";\"small\"", 99, "small");
        Probe.shows("[>100]\"a\";[>10]\"b\"", 50, "b");
        Probe.shows("[>100]\"a\";[>10]\"b\"", 5, "5");
        Probe.shows("[>100]\"a\";[>10]\"b\"", -5, "-5");
        Probe.shows("\"a\";[<-10]\"b\"", -5, "-5");
        Probe.shows("\"a\";[<-10]\"b\"", -50, "b");
        Probe.shows("\"a\";[<-10]\"b\"", 0, "a");
        Probe.shows("[>100]\"a\";[>10]\"b\";\"c\"", 5, "c");
        Probe.shows("[>100]\"a\";\"b\";\"c\"", 5, "c");
        Probe.shows("[>100]\"a\";\"b\";\"c\"", -5, "b");
        Probe.shows("\"a\";[>10]\"b\";\"c\"", 5, "a");
        Probe.shows("\"a\";[=-1]\"b\";\"c\"", -1, "b");
        Probe.shows("\"a\";[=-1]\"b\";\"c\"", -2, "c");
        String[][] relations = {{"<", "100"}, {"<=", "110"}, {"=", "010"}, {"<>", "101"}, {">=", "011"}, {">", "001"}};
        for (String[] relation : relations) {
            for (int k = -1; k <= 1; k++) {
                String want = relation[1].charAt(k + 1) == '1' ? "y" : "n";
                Probe.shows("[" + relation[0] + "-2.5]\"y\";\"n\"", -2.5 + k, want);
            }
        }
        // The double nearest to the number; ties and more digits than a double has.
        String[] limits = {"0.1", "0.3", "123456789.123456789", "999999999.999999999", "0.000000001", "1.000000001",
            "2.675", "536870912.000000059", "4503599.627370497", "0.0", "000000007.250000000"};
        for (String limit : limits) {
            double v = Double.parseDouble(limit);
            Probe.shows("[=" + limit + "]\"y\";\"n\"", v, "y");
            Probe.shows("[<" + limit + "]\"y\";\"n\"", Math.nextDown(v), "y");
            Probe.shows("[>" + limit + "]\"y\";\"n\"", Math.nextUp(v), "y");
            Probe.shows("[=-" + limit + "]\"y\";\"n\"", -v, "y");
        }
    }

    private static void signs() {
        Probe.shows("0", -5, "-5");
        Probe.shows("\"x\"0", -5, "-x5");
        Probe.shows("0.0", -0.04, "0.0");
        Probe.shows("0.0", -0.05, "-0.1");
        Probe.shows("\"7\"0", -0.4, "70");
        Probe.shows("0;0", -5, "5");
        Probe.shows("0;-0", -5, "-5");
        Probe.shows("0;0;0", -5, "5");
        Probe.shows("[>5]0;0", -5, "-5");
        Probe.shows("0;[<0]0", -5, "-5");
        Probe.shows("[<0]0;0", -5, "-5");
        Probe.shows("[>5]0;[>1]0;0", -5, "-5");
        Probe.shows("@\"x\"", -5, "-5x");
        Probe.shows("0;\"n\"@", -5, "n5");
        Probe.shows("\"a\"General", -5, "-a5");
        Probe.shows("0;General", -5, "5");
        Probe.shows("0E+0", -0.001, "-1E-3");
        Probe.shows("0.0;[<-100]0", -5, "-5");
        Probe.shows("# ?/?", -0.001, "    ");
        Probe.shows("?/?", -0.5, "-1/2");
        Probe.shows("# ?/?", -2, "-2    ");
        Probe.shows("?/?", -0.001, " /1");
    }

    private static void plain() {
        Probe.shows("\"a\" .,/%!$&'()*+-:<=>^{|}~", 5, "a .,/%!$&'()*+-:<=>^{|}~");
        Probe.shows("\\d\\\"_x\\\\", 5, "d\" \\");
        Probe.shows("\u00e9\u0080\u00ff\u007f", 5, "\u00e9\u0080\u00ff\u007f");
        Probe.shows("@.,/%", 5, "5.,/%");
        Probe.shows("@ @", 0.5, "0.5 0.5");
        Probe.shows("General.,/%", 1.5, "1.5.,/%");
    }

    private static void digits() {
        Probe.shows("0", 0, "0");
        Probe.shows("#", 0, "");
        Probe.shows("?", 0, " ");
        Probe.shows("000", 5, "005");
        Probe.shows("###", 5, "5");
        Probe.shows("???", 5, "  5");
        Probe.shows("0#?", 5, "005");
        Probe.shows("#0?", 5, "05");
        Probe.shows("?0#", 5, " 05");
        Probe.shows("#?0", 5, " 5");
        Probe.shows("0", 12345, "12345");
        Probe.shows("00-00", 12345, "123-45");
        Probe.shows("(000) 0", 5, "(000) 5");
        Probe.shows("#\"x\"#\"y\"#", 7, "xy7");
        Probe.shows(".00", 12.5, "12.50");
        Probe.shows("\"a\".00", 12.5, "a12.50");
        Probe.shows(".00", 0.5, ".50");
        Probe.shows("#.00", 0.5, ".50");
        Probe.shows("0.", 5, "5.");
        Probe.shows("0.##", 5, "5.");
        Probe.shows("0.0#?", 5, "5.0 ");
        Probe.shows("0.#0?", 5.125, "5.125");
        Probe.shows("0.#0?", 5, "5.00 ");
        Probe.shows("0.??#", 5.1, "5.1 ");
        Probe.shows("0.?0", 5.1, "5.10");
        Probe.shows("0.#\"x\"#", 5.25, "5.2x5");
        Probe.shows("0.#\"x\"#", 5.5, "5.5x");
        Probe.shows("0.0", 9.96, "10.0");
    }

    private static void rounding() {
        Probe.shows("0", 0.5, "1");
        Probe.shows("0", 2.5, "3");
        Probe.shows("0", -2.5, "-3");
        Probe.shows("0", 0.49999999999999994, "0");
        Probe.shows("0.00", 1.005, "1.00");
        Probe.shows("0.00", 2.675, "2.67");
        Probe.shows("0.00", 0.125, "0.13");
        Probe.shows("0.0", 0.25, "0.3");
        Probe.shows("0.0", 0.35, "0.3");
        Probe.shows("0.0000000000000000000000", 0.1, "0.1000000000000000055511");
        Probe.shows("0", 1E22, "10000000000000000000000");
        Probe.shows("0", 1E23, "99999999999999991611392");
        Probe.shows("0", 9999.5, "10000");
        Probe.shows("0", 4.9E-324, "0");
    }

    private static void scales() {
        Probe.shows("0%", 0.125, "13%");
        Probe.shows("0.0%", 0.125, "12.5%");
        Probe.shows("%0%", 0.125, "%1250%");
        Probe.shows("0\"%\"", 0.6, "1%");
        Probe.shows("0,", 12345, "12");
        Probe.shows("0,,", 1500000, "2");
        Probe.shows("0,.0", 12345, "12.3");
        Probe.shows("0.0,", 12345, "12345.0");
        Probe.shows("0\"x\",", 12345, "12345x");
        Probe.shows("0,\"x\"", 12345, "12x");
        Probe.shows(",0", 12345, "12345");
        Probe.shows("#,##0,", 1234567890, "1,234,568");
        Probe.shows("0,%", 12345, "1235%");
        Probe.shows("0.00%", 1.00005, "100.01%");
        Probe.shows("0,,,,,", 1E15, "1");
    }

    private static void groups() {
        Probe.shows("#,##0", 0, "0");
        Probe.shows("#,##0", 999, "999");
        Probe.shows("#,##0", 1000, "1,000");
        Probe.shows("#,##0", 1234567, "1,234,567");
        Probe.shows("0,0", 1234, "1,234");
        Probe.shows("0,000", 5, "0,005");
        Probe.shows("0,000,000", 5, "0,000,005");
        Probe.shows("?,???", 5, "    5");
        Probe.shows("?,???", 1234, "1,234");
        Probe.shows("?,??0,000", 5, "    0,005");
        Probe.shows("0,000\"x\"000", 1234567, "1,234,x567");
        Probe.shows("#,##0.00", 1234567.875, "1,234,567.88");
        Probe.shows("#,###", 0, "");
        Probe.shows("#,#", 123456, "123,456");
        Probe.shows("0,0.0", 1234.5, "1,234.5");
        Probe.shows("0,.0,0", 1234.5, "1.23");
        Probe.shows("?,##0", 5, " 5");
        Probe.shows("#,###.00", 0.5, ".50");
        Probe.shows("0\"-\",0", 1234, "1,23-4");
    }

    private static void exponents() {
        Probe.shows("0.00E+00", 12345, "1.23E+04");
        Probe.shows("0.00E+00", 0.00012345, "1.23E-04");
        Probe.shows("0.00E-00", 12345, "1.23E04");
        Probe.shows("0.00e-00", 0.00012345, "1.23E-04");
        Probe.shows("0E+0", 0, "0E+0");
        Probe.shows("#E+#", 0, "E+");
        Probe.shows("0E+#", 5, "5E+");
        Probe.shows("0E+??", 12345, "1E+ 4");
        Probe.shows("0E+000", 1E12, "1E+012");
        Probe.shows("0E+0", 1E250, "1E+250");
        Probe.shows("##0.0E+0", 12345, "12.3E+3");
        Probe.shows("##0.0E+0", 1000, "1.0E+3");
        Probe.shows("##0.0E+0", 123456, "123.5E+3");
        Probe.shows("##0.0E+0", 999960, "1.0E+6");
        Probe.shows("##0.0E+0", 0.05, "50.0E-3");
        Probe.shows("##0.0E+0", 0.0005, "500.0E-6");
        Probe.shows("000E+0", 12345, "012E+3");
        Probe.shows("0.0E+0", 9.96, "1.0E+1");
        Probe.shows("0.0E+0", 0.0996, "1.0E-1");
        Probe.shows("0.0E+0", 0.996, "1.0E+0");
        Probe.shows(".00E+0", 1234, "1.23E+3");
        Probe.shows("0.0E+0", 4.9E-324, "4.9E-324");
        Probe.shows("%0.0E+0", 0.5, "%5.0E+1");
        Probe.shows("0,.0E+0", 5, "5.0E-3");
        Probe.shows("#,##0E+0", 12345678, "1,235E+4");
        Probe.shows("0.##E+0", 5, "5.E+0");
        Probe.shows("0.0E+0", -12345, "-1.2E+4");
        Probe.shows("0" + ",".repeat(240) + ".0E+000", 1E-300, "1.0E-1020");
        Probe.shows("0" + "%".repeat(240) + ".0E+0", 1E299, "1" + "%".repeat(240) + ".0E+779");
    }

    private static void fractions() {
        Probe.shows("# ??/??", 1.0 / 3, "  1/3 ");
        Probe.shows("# ??/??", 3, "3      ");
        Probe.shows("?/8", 0.5, "4/8");
        Probe.shows("?/?", 0.3, "2/7");
        Probe.shows("?/?", 3.14159265358979, "22/7");
        Probe.shows("# ???/???", 3.14159265358979, "3  16/113");
        Probe.shows("# ?/?", 0, "    ");
        Probe.shows("0 ?/?", 0, "0    ");
        Probe.shows("?/?", 0, " /1");
        Probe.shows("0/0", 0, "0/1");
        Probe.shows("0/0", 2, "2/1");
        Probe.shows("# ?/?", 0.99, "1    ");
        Probe.shows("# ?/?", 1.5, "1 1/2");
        Probe.shows("# ??/??", 1.5, "1  1/2 ");
        Probe.shows("# 0/0", 7, "7    ");
        Probe.shows("# ##/##", 0.5, " 1/2");
        Probe.shows("0 00/00", 2.5, "2 01/2");
        Probe.shows("#\" and \"0/0", 2.5, "2 and 1/2");
        Probe.shows("# # ?/?", 123.5, "12 3 1/2");
        Probe.shows("#? ?/?", 3.5, "3 1/2");
        Probe.shows("?/??0", 0.5, "1/2 ");
        Probe.shows("?/?0?", 0.5, "1/2 ");
        Probe.shows("-0/0!", 0.5, "-1/2!");
        Probe.shows("# ?/100", 0.29, " 29/100");
        Probe.shows("# ?/100", 3, "3    ");
        Probe.shows("??/16\" in\"", 0.3, " 5/16 in");
    }

    private static void fractionEdges() {
        // A half between two A: the lesser one. Between two B: the lesser one as well.
        Probe.shows("0/1", 0.5, "0/1");
        Probe.shows("0/3", 0.5, "1/3");
        Probe.shows("0/100", 0.125, "12/100");
        Probe.shows("# 0/1", 1.5, "1    ");
        Probe.shows("# 0/1", 1.75, "2    ");
        Probe.shows("0/0", 0.0625, "1/9");
        Probe.shows("0/0", 0.05, "0/1");
        Probe.shows("# 0/8", 0.9375, " 7/8");
        Probe.shows("0/999", 1E-5, "0/999");
        Probe.shows("???/???", 1.0 / 999, "  1/999");
        Probe.shows("???/???", 0.0005, "   /1  ");
        Probe.shows("# 0/0", 999999999.5, "999999999 1/2");
        Probe.shows("# 0/0", 999999999.99, "1000000000    ");
        Probe.shows("0/0", 999999999.5, "1999999999/2");
        Probe.shows("0/999", 999999999.5, "998999999500/999");
        Probe.shows("# 0/0", 1E9, "1000000000");
        Probe.shows("# 0/0", -1E9, "-1000000000");
        Probe.shows("\"x\"# 0/0", 1.5E15, "1.5E+15");
        Probe.shows("0;# 0/0", -2E9, "-2000000000");
        Probe.shows("0;# 0/0", -2.5, "2 1/2");
    }

    private static void days() {
        Probe.shows("yyyy-mm-dd", 0, "1899-12-30");
        Probe.shows("yyyy-mm-dd", 1, "1899-12-31");
        Probe.shows("yyyy-mm-dd", 2, "1900-01-01");
        Probe.shows("yyyy-mm-dd", 60, "1900-02-28");
        Probe.shows("yyyy-mm-dd", 61, "1900-03-01");
        Probe.shows("yyyy-mm-dd", 36585, "2000-02-29");
        Probe.shows("yyyy-mm-dd", 36586, "2000-03-01");
        Probe.shows("yyyy-mm-dd", 73109, "2100-02-28");
        Probe.shows("yyyy-mm-dd", 73110, "2100-03-01");
        Probe.shows("yyyy-mm-dd", 2958465, "9999-12-31");
        Probe.shows("y yy yyy yyyy", 36526, "00 00 2000 2000");
        Probe.shows("m mm mmm mmmm mmmmm", 36526, "1 01 Jan January J");
        Probe.shows("d dd ddd dddd", 36526, "1 01 Sat Saturday");
        Probe.shows("dddd, mmmm d, yyyy", 46340.75, "Saturday, November 14, 2026");
        String[] months = {"Jan January J", "Feb February F", "Mar March M", "Apr April A", "May May M", "Jun June J",
            "Jul July J", "Aug August A", "Sep September S", "Oct October O", "Nov November N", "Dec December D"};
        for (int k = 0; k < 12; k++) {
            Probe.shows("mmm mmmm mmmmm", 36526 + 31 * k, months[k]);
        }
        String[] weekdays = {"Sat Saturday", "Sun Sunday", "Mon Monday", "Tue Tuesday", "Wed Wednesday",
            "Thu Thursday", "Fri Friday"};
        for (int k = 0; k < 14; k++) {
            Probe.shows("ddd dddd", k, weekdays[k % 7]);
        }
        Probe.shows("YYYY/MM.DD,", 36526, "2000/01.01,");
    }

    private static void times() {
        Probe.shows("hh:mm:ss", 0.75, "18:00:00");
        Probe.shows("h:m:s", 0.5 + 5.0 / 1440 + 7.0 / 86400, "12:5:7");
        Probe.shows("h AM/PM", 0, "12 AM");
        Probe.shows("h am/pm", 0.5, "12 PM");
        Probe.shows("hh a/p", 0.75, "06 P");
        Probe.shows("h A/P", 0.25, "6 A");
        Probe.shows("h hh", 0.75, "18 18");
        Probe.shows("h:mm AM/PM h", 0.75, "6:00 PM 6");
        Probe.shows("[h]:mm:ss.00", 46340.75, "1112178:00:00.00");
        Probe.shows("[h] [hh] [m] [mm] [s] [ss]", 1.0 / 24, "1 01 60 60 3600 3600");
        Probe.shows("[h] [hh] [m] [mm] [s] [ss]", 5.0 / 86400, "0 00 0 00 5 05");
        Probe.shows("[ss]", 2958465.5, "" + (2958465L * 86400 + 43200));
        Probe.shows("ss.000", 1.2346 / 86400, "01.235");
        Probe.shows("ss.0 ss.00 ss.000", 1.2389 / 86400, "01.2 01.23 01.239");
        Probe.shows("ss", 1.6 / 86400, "02");
        Probe.shows("ss.0 ss", 1.96 / 86400, "02.0 02");
        Probe.shows("ss ss.0", 1.94 / 86400, "01 01.9");
        Probe.shows("s.0", 59.97 / 86400, "0.0");
        Probe.shows("hh:mm:ss", 86399.5 / 86400, "00:00:00");
        Probe.shows("yyyy-mm-dd hh:mm", 1 + 86399.6 / 86400, "1900-01-01 00:00");
        Probe.shows("s..", 1.0 / 86400, "1..");
    }

    private static void minutes() {
        double v = 36526 + 5.0 / 1440;
        Probe.shows("m", v, "1");
        Probe.shows("h:m", v, "0:5");
        Probe.shows("h:mm", v, "0:05");
        Probe.shows("[h]:mm", v, "876624:05");
        Probe.shows("m:s", v, "5:0");
        Probe.shows("mm:[ss]", v, "05:" + (36526L * 86400 + 300));
        Probe.shows("h mmm m", v, "0 Jan 1");
        Probe.shows("h mm mm", v, "0 05 01");
        Probe.shows("mm mm ss", v, "01 05 00");
        Probe.shows("h AM/PM mm", v, "12 AM 05");
        Probe.shows("mm AM/PM ss", v, "05 AM 00");
        Probe.shows("h d mm", v, "0 1 01");
        Probe.shows("mm/dd hh", v, "01/01 00");
        Probe.shows("[m] m", v, "52597445 1");
        Probe.shows("h mmmmm s", v, "0 J 0");
        Probe.shows("h\"x\"mm", v, "0x05");
    }

    private static void dateEdges() {
        Probe.shows("yyyy", -1, "########");
        Probe.shows("\"x\"yyyy", -1E-300, "########");
        Probe.shows("yyyy", 2958466, "########");
        Probe.shows("yyyy", Math.nextDown(2958466.0), "########");
        Probe.shows("ss.000", Math.nextDown(2958466.0), "########");
        Probe.shows("yyyy hh:mm:ss", 2958466 - 0.6 / 86400, "9999 23:59:59");
        Probe.shows("yyyy hh:mm:ss", 2958466 - 0.4 / 86400, "########");
        Probe.shows("ss.0", 2958466 - 0.4 / 86400, "59.6");
        Probe.shows("[h]", 1E299, "########");
        Probe.shows("0;yyyy", -5, "########");
        Probe.shows("[>1]d;[<0]\"n\"0;yyyy", 0.5, "1899");
        Probe.shows("0;AM/PM", -0.5, "########");
        Probe.shows("AM/PM", 0.5, "PM");
        Probe.shows("ss", 4.9E-324, "00");
    }

    private static void general() {
        Probe.shows("General", 0, "0");
        Probe.shows("General", 5, "5");
        Probe.shows("General", -1.5, "-1.5");
        Probe.shows("General", 0.1, "0.1");
        Probe.shows("General", 1.0 / 3, "0.333333333");
        Probe.shows("General", 1234.56789012345, "1234.56789");
        Probe.shows("General", 123456789.987, "123456790");
        Probe.shows("General", 123456789.94, "123456789.9");
        Probe.shows("General", 1234567890.5, "1234567891");
        Probe.shows("General", 99999999999.0, "99999999999");
        Probe.shows("General", 99999999999.4, "99999999999");
        Probe.shows("General", 99999999999.5, "1E+11");
        Probe.shows("General", 1E11, "1E+11");
        Probe.shows("General", 123456500000.0, "1.23457E+11");
        Probe.shows("General", 123456000000.0, "1.23456E+11");
        Probe.shows("General", 120000000000.0, "1.2E+11");
        Probe.shows("General", 9999995E9, "1E+16");
        Probe.shows("General", 9999994E9, "9.99999E+15");
        Probe.shows("General", 9.99999999996, "10");
        Probe.shows("General", 0.00001, "0.00001");
        Probe.shows("General", 0.0000123456, "0.000012346");
        Probe.shows("General", Math.nextDown(1E-5), "1E-05");
        Probe.shows("General", 0.0000099, "9.9E-06");
        Probe.shows("General", 1E-300, "1E-300");
        Probe.shows("General", -1.5E250, "-1.5E+250");
        Probe.shows("General\" pcs\"", 3, "3 pcs");
        Probe.shows("\"t: \"@", 3.25, "t: 3.25");
    }

    private static void sizes() {
        NumberFormats x = new NumberFormats();
        Probe.format(x, "0.0");
        x.set(-12.25);
        Probe.due("so many characters", x.show(), 5);
        Probe.due("shown twice", Probe.show(x), "-12.3");
        Probe.due("the most", Probe.show("0" + "%".repeat(254), 9E299).length(), 1024);
        Probe.due("a text of blanks", Probe.show("?".repeat(255), 1), " ".repeat(254) + "1");
        Probe.due("tiny times much", Probe.show("0" + "%".repeat(160), 1E-300).length(), 21 + 160);
        Probe.due("much less of it", Probe.show("0" + ",".repeat(254), 1E299), "0");
    }
}
