/**
 * The edges of showing: FRACTION, DATE, GENERAL and texts. Each sentence of the document that names
 * one has a test of its own.
 */
public final class EdgesOfFractionsAndDatesTest {
    private static final double LEAST = Double.MIN_VALUE;
    private static final double DAYS = 2958466;

    public static void main(String[] args) {
        upTo();
        theNumberThere();
        nearest();
        leastBelow();
        lesserAbove();
        wholeParts();
        withoutWholes();
        upperAndLower();
        oneMore();
        blanks();
        tooGreatForFractions();
        dayNought();
        gregorian();
        roundedToSeconds();
        mostTenths();
        belowNought();
        lastDay();
        years();
        months();
        minutesBehindHours();
        minutesBeforeSeconds();
        weekdays();
        hours();
        secondsAndTenths();
        halves();
        elapsed();
        generalNought();
        generalBounds();
        elevenSigns();
        tidy();
        wouldBe1E11();
        sixDigits();
        powerOfGeneral();
        atIsGeneral();
        texts();
        Probe.finish();
    }

    private static void upTo() {
        Probe.says("of all A / B with B up to 9, 99, 999 (by how many digit items there are behind the /");
        Probe.shows("?/?", 1.0 / 9, "1/9");
        Probe.shows("?/?", 0.1, "1/9");
        Probe.shows("?/??", 0.1, "1/10");
        Probe.shows("?/??", 1.0 / 99, "1/99");
        Probe.shows("?/??", 0.01, "1/99");
        Probe.shows("?/???", 0.01, "1/100");
        Probe.shows("?/???", 1.0 / 999, "1/999");
        Probe.shows("?/???", 0.001, "1/999");
        Probe.shows("0/0#?", 997.0 / 999, "997/999");
        Probe.shows("0/00", 97.0 / 99, "97/99");
        Probe.shows("0/0", 7.0 / 9, "7/9");
        Probe.shows("?/?;?", 0.1, "1/9");
        Probe.shows("?/??;???", 0.01, "1/99");
    }

    private static void theNumberThere() {
        Probe.says("; or B the number there)");
        Probe.shows("0/1", 0.75, "1/1");
        Probe.shows("0/8", 0.5, "4/8");
        Probe.shows("0/10", 0.5, "5/10");
        Probe.shows("0/100", 0.5, "50/100");
        Probe.shows("0/999", 0.5, "499/999");
        Probe.shows("# 0/999", 7.0 / 999, " 7/999");
    }

    private static void nearest() {
        Probe.says("that which is nearest to SHOWN less its whole part");
        Probe.shows("# ?/?", 3.3, "3 2/7");
        Probe.shows("# ?/?", 3.34, "3 1/3");
        Probe.shows("# ???/???", 3.14159265358979, "3  16/113");
        Probe.shows("?/?", 3.14159265358979, "22/7");
        // Half of 1 / 9 and of 1 / 999 lie between nothing and the least fraction.
        Probe.shows("# 0/0", Math.nextUp(1.0 / 18), " 1/9");
        Probe.shows("# 0/0", 1.0 / 18, "    ");
        Probe.shows("0/000", Math.nextUp(1.0 / 1998), "1/999");
        Probe.shows("0/000", Math.nextDown(1.0 / 1998), "0/1");
        Probe.shows("0/999", Math.nextUp(1.0 / 1998), "1/999");
        Probe.shows("0/999", Math.nextDown(1.0 / 1998), "0/999");
        Probe.shows("0/000", 1 - 1.0 / 2000, "1/1");
        Probe.shows("0/000", 1 - 1.0 / 1900, "998/999");
        Probe.shows("0/0", LEAST, "0/1");
        Probe.shows("0/0", Math.nextDown(1.0), "1/1");
        // Of all doubles these are the closest to the middle between two neighbours.
        Probe.shows("0/000", 0x1.fef800021fef8p-7, "15/962");
        Probe.shows("0/000", 0x1.dce70001ddce7p-6, "14/481");
        Probe.shows("0/000", 0x1.76b10000576b1p-4, "44/481");
        Probe.shows("0/000", 0x1.e4b432aaa57d1p-9, "3/811");
        Probe.shows("0/000", 0x1.1250ffffd1251p-3, "73/545");
        for (int[] row : new int[][] {{9, 1}, {99, 1}, {999, 97}}) {
            midpoints(row[0], row[1]);
        }
    }

    /** Between any two neighbours among the fractions: the doubles about their middle. */
    private static void midpoints(int most, int step) {
        NumberFormats x = new NumberFormats();
        Probe.format(x, "0/" + "0".repeat(Integer.toString(most).length()));
        int a = 0;
        int b = 1;
        int c = 1;
        int d = most;
        for (int k = 0; c <= d; k++) {
            if (k % step == 0) {
                double middle = (a * d + c * b) / (2.0 * b * d);
                for (double v : new double[] {Math.nextDown(middle), middle, Math.nextUp(middle)}) {
                    java.math.BigDecimal twice = new java.math.BigDecimal(v).multiply(java.math.BigDecimal.valueOf(2L * b * d));
                    boolean lower = twice.compareTo(java.math.BigDecimal.valueOf((long) a * d + (long) c * b)) < 0;
                    x.set(v);
                    Probe.due("0/0 up to " + most + " of " + v, Probe.show(x), lower ? a + "/" + b : c + "/" + d);
                }
            }
            int next = (most + b) / d;
            int nextC = next * c - a;
            int nextD = next * d - b;
            a = c;
            b = d;
            c = nextC;
            d = nextD;
        }
    }

    private static void leastBelow() {
        Probe.says("of several the least B");
        Probe.shows("0/0", 0.5, "1/2");
        Probe.shows("0/000", 0.5, "1/2");
        Probe.shows("0/000", 0, "0/1");
        Probe.shows("0/000", 1, "1/1");
        Probe.shows("0/000", 0.375, "3/8");
        Probe.shows("0/000", 0.984375, "63/64");
    }

    private static void lesserAbove() {
        Probe.says("of two A the lesser one");
        Probe.shows("0/1", 0.5, "0/1");
        Probe.shows("0/1", Math.nextUp(0.5), "1/1");
        Probe.shows("0/2", 0.25, "0/2");
        Probe.shows("0/2", 0.75, "1/2");
        Probe.shows("0/3", 0.5, "1/3");
        Probe.shows("0/999", 0.5, "499/999");
        Probe.shows("0/999", Math.nextUp(0.5), "500/999");
        Probe.shows("# 0/1", 1.5, "1    ");
        Probe.shows("0/1", 1.5, "1/1");
        Probe.shows("# 0/4", 2.125, "2    ");
    }

    private static void wholeParts() {
        Probe.says("The whole part is shown by the digit items before the last row of such ahead of the / (a row: with "
                + "nothing between)");
        Probe.shows("0 0/0", 12.5, "12 1/2");
        Probe.shows("#-#-#/#", 12.5, "1-2-1/2");
        Probe.shows("# ##/#", 2.5, "2 1/2");
        Probe.shows("0 00/0", 2.5, "2 01/2");
        Probe.shows("##\"x\"#/#", 2.5, "2x1/2");
        Probe.shows("000 0/0", 2.5, "002 1/2");
        Probe.shows("??? ?/?", 2.5, "  2 1/2");
        Probe.shows("# ?/?", 0.5, " 1/2");
        Probe.shows("? ?/?", 0.5, "  1/2");
        Probe.shows("0 ?/?", 0.5, "0 1/2");
    }

    private static void withoutWholes() {
        Probe.says("without such items SHOWN itself is A / B");
        Probe.shows("0/0", 2.5, "5/2");
        Probe.shows("?/?", 2, "2/1");
        Probe.shows("?/8", 2, "16/8");
        Probe.shows("\"x\"##/#", 2.5, "x5/2");
        Probe.shows("00/0", 2.5, "05/2");
        Probe.shows("0/000", 999999998.5, "1999999997/2");
        Probe.shows("0/999", 999999999, "998999999001/999");
    }

    private static void upperAndLower() {
        Probe.says("A by its items; B's digits, and a blank for each ? that is too many (for 0 and # nothing)");
        Probe.shows("???/0", 0.5, "  1/2");
        Probe.shows("###/0", 0.5, "1/2");
        Probe.shows("000/0", 0.5, "001/2");
        Probe.shows("0?#/0", 0.5, "001/2");
        Probe.shows("?/??", 0.5, "1/2 ");
        Probe.shows("?/???", 0.5, "1/2  ");
        Probe.shows("?/???", 1.0 / 16, "1/16 ");
        Probe.shows("?/???", 1.0 / 128, "1/128");
        Probe.shows("?/000", 0.5, "1/2");
        Probe.shows("?/###", 0.5, "1/2");
        Probe.shows("?/0#?", 0.5, "1/2 ");
        Probe.shows("?/?00", 0.5, "1/2");
        Probe.shows("?/?", 0, " /1");
        Probe.shows("#/#", 0, "/1");
        Probe.shows("#/??", 0, "/1 ");
        Probe.shows("?/??", 1.0 / 9, "1/9 ");
        Probe.shows("?/??", 1.0 / 10, "1/10");
        Probe.shows("?/???", 1.0 / 9, "1/9  ");
        Probe.shows("?/???", 1.0 / 10, "1/10 ");
        Probe.shows("?/???", 1.0 / 99, "1/99 ");
        Probe.shows("?/???", 1.0 / 100, "1/100");
    }

    private static void oneMore() {
        Probe.says("With whole ones: if A is B, it is one more and A is 0");
        Probe.shows("# 0/0", 0.99, "1    ");
        Probe.shows("# 0/0", 1.99, "2    ");
        Probe.shows("# 0/0", 9.99, "10    ");
        Probe.shows("# 0/1", 1.75, "2    ");
        Probe.shows("# 0/0", 1.9, "1 8/9");
        Probe.shows("# 0/0", -0.99, "-1    ");
        Probe.shows("0/0", 0.99, "1/1");
        Probe.shows("0/0", 1.99, "2/1");
        Probe.shows("# 0/0", Math.nextDown(1E9), "1000000000    ");
    }

    private static void blanks() {
        Probe.says("if A is 0, each item of A, the / and each item of B (a DIVISOR is one) is a blank");
        Probe.shows("0 0/0", 3, "3    ");
        Probe.shows("0 ##/###", 3, "3       ");
        Probe.shows("# 0/100", 3, "3    ");
        Probe.shows("# 0/8\"x\"", 3, "3    x");
        Probe.shows("# 0/8", 0, "    ");
        Probe.shows("0 0/8", 0, "0    ");
        Probe.shows("0\"a\"?/?\"b\"", 3, "3a   b");
        Probe.shows("0/0", 0, "0/1");
        Probe.shows("0/8", 0, "0/8");
        NumberFormats x = new NumberFormats();
        Probe.format(x, "# 0/8");
        x.set(3.5);
        Probe.due("another one before", Probe.show(x), "3 4/8");
        x.set(3);
        Probe.due("3 after it", Probe.show(x), "3    ");
    }

    private static void tooGreatForFractions() {
        Probe.says("If v is 1E9 or more in size, GENERAL alone is taken.");
        Probe.shows("\"x\"0/1", Math.nextDown(1E9), "x1000000000/1");
        Probe.shows("\"x\"0/1", 1E9, "1000000000");
        Probe.shows("\"x\"0/1", -1E9, "-1000000000");
        Probe.shows("\"x\"0/1", 1234567890.5, "1234567891");
        Probe.shows("\"x\"0/1", 9E299, "9E+299");
        Probe.shows("\"x\"0/1", 999999999, "x999999999/1");
        Probe.shows("\"x\"0/1", -999999999, "-x999999999/1");
    }

    private static void dayNought() {
        Probe.says("v counts days, 0 being December 30, 1899");
        Probe.shows("yyyy-mm-dd dddd hh:mm:ss", 0, "1899-12-30 Saturday 00:00:00");
        Probe.shows("yyyy-mm-dd", 1, "1899-12-31");
        Probe.shows("yyyy-mm-dd", 2, "1900-01-01");
        Probe.shows("yyyy-mm-dd", Math.nextDown(1.0), "1899-12-31");
        Probe.shows("yyyy-mm-dd", 0.999, "1899-12-30");
    }

    private static void gregorian() {
        Probe.says("by the Gregorian calendar");
        String[][] rows = {{"60", "1900-02-28"}, {"61", "1900-03-01"}, {"1520", "1904-02-28"}, {"1521", "1904-02-29"},
            {"1522", "1904-03-01"}, {"36584", "2000-02-28"}, {"36585", "2000-02-29"}, {"36586", "2000-03-01"},
            {"73109", "2100-02-28"}, {"73110", "2100-03-01"}, {"182682", "2400-02-29"}, {"36525", "1999-12-31"},
            {"36526", "2000-01-01"}, {"2958465", "9999-12-31"}, {"2958464", "9999-12-30"}, {"2958101", "9999-01-01"}};
        for (String[] row : rows) {
            Probe.shows("yyyy-mm-dd", Integer.parseInt(row[0]), row[1]);
        }
        java.time.LocalDate day = java.time.LocalDate.of(1899, 12, 30);
        NumberFormats x = new NumberFormats();
        Probe.format(x, "yyyy-mm-dd");
        for (int year = 1900; year <= 9999; year++) {
            java.time.LocalDate first = java.time.LocalDate.of(year, 1, 1);
            java.time.LocalDate march = java.time.LocalDate.of(year, 3, 1);
            for (java.time.LocalDate date : new java.time.LocalDate[] {first, first.plusDays(-1), march, march.plusDays(-1),
                march.plusDays(-2), first.plusDays(year % 366)}) {
                x.set(date.toEpochDay() - day.toEpochDay());
                Probe.due("day of " + date, Probe.show(x), date.toString());
            }
        }
    }

    private static void roundedToSeconds() {
        Probe.says("it is rounded to seconds, or to as many decimals of them as the most tenths have");
        // A day's 256th part is 337.5 seconds.
        Probe.shows("hh:mm:ss", 1.0 / 256, "00:05:38");
        Probe.shows("hh:mm:ss", Math.nextDown(1.0 / 256), "00:05:37");
        Probe.shows("hh:mm", 1.0 / 256, "00:05");
        Probe.shows("ss.0", 1.0 / 256, "37.5");
        Probe.shows("ss.0", 1.0 / 512, "48.8");
        Probe.shows("ss.00", 1.0 / 1024, "24.38");
        Probe.shows("ss.000", 1.0 / 1024, "24.375");
        Probe.shows("ss.000", 1.0 / 2048, "42.188");
        Probe.shows("ss.000", Math.nextDown(3.0 / 2048), "06.562");
        Probe.shows("ss.000", 3.0 / 2048, "06.563");
        Probe.shows("hh:mm:ss", 1 - 0.5 / 86400, "00:00:00");
        Probe.shows("d hh:mm:ss", 1 - 0.4 / 86400, "31 00:00:00");
        Probe.shows("d hh:mm:ss", 1 - 0.6 / 86400, "30 23:59:59");
        Probe.shows("d hh:mm:ss.0", 1 - 0.4 / 86400, "30 23:59:59.6");
        Probe.shows("yyyy", 2 - 0.4 / 86400, "1900");
    }

    private static void mostTenths() {
        Probe.says("(fewer than the most are cut off from the same number)");
        Probe.shows("s.000 s.00 s.0 s", 1.0 / 2048, "42.188 42.18 42.1 42");
        Probe.shows("s s.0 s.00 s.000", 1.0 / 2048, "42 42.1 42.18 42.188");
        Probe.shows("s.00 s.0 s", 1.0 / 2048, "42.19 42.1 42");
        Probe.shows("s.0 s", 1.0 / 256, "37.5 37");
        Probe.shows("[s].0 [s]", 1.0 / 256, "337.5 337");
        Probe.shows("[s]", 1.0 / 256, "338");
        Probe.shows("s;s.000", 1.0 / 256, "38");
        Probe.shows("s.000 s.00 s.0", 0.099 / 86400, "0.099 0.09 0.0");
        Probe.shows("s.000 s.00 s.0", 0.99 / 86400, "0.990 0.99 0.9");
        Probe.shows("s.000 s.00 s.0", 0.999 / 86400, "0.999 0.99 0.9");
        Probe.shows("s.000 s.00 s.0", 0.009 / 86400, "0.009 0.00 0.0");
    }

    private static void belowNought() {
        Probe.says("if it is below 0 .. eight #");
        Probe.shows("yyyy", -LEAST, "########");
        Probe.shows("yyyy", -1, "########");
        Probe.shows("yyyy", -9E299, "########");
        Probe.shows("\"x\"ss.0", -LEAST, "########");
        Probe.shows("0;yyyy\"x\"", -1, "########");
        Probe.shows("yyyy", 0, "1899");
        Probe.shows("ss", LEAST, "00");
    }

    private static void lastDay() {
        Probe.says("or 2958466 or more, also when rounded: eight #");
        Probe.shows("yyyy-mm-dd", DAYS - 1, "9999-12-31");
        Probe.shows("yyyy-mm-dd", DAYS, "########");
        Probe.shows("yyyy-mm-dd", 9E299, "########");
        Probe.shows("yyyy-mm-dd", Math.nextDown(DAYS), "########");
        // 33 / 2^16 of a day are 43.506 seconds; the last half second is 12427.6 / 2^31 of one.
        Probe.shows("d hh:mm:ss", DAYS - 33.0 / 65536, "31 23:59:16");
        double half = DAYS - 12427.0 / (1L << 31);
        Probe.shows("d hh:mm:ss", half, "########");
        Probe.shows("d hh:mm:ss", Math.nextDown(half), "31 23:59:59");
        Probe.shows("d hh:mm:ss.0", half, "31 23:59:59.5");
        Probe.shows("[s]", DAYS - 1, "" + (2958465L * 86400));
        Probe.shows("[s].000", half, "255611462399.500");
    }

    private static void years() {
        Probe.says("y yy: the year's last two digits, more: four");
        Probe.shows("y yy yyy yyyy", 0, "99 99 1899 1899");
        Probe.shows("y yy yyy yyyy", 36526, "00 00 2000 2000");
        Probe.shows("y yy yyy yyyy", 38353, "05 05 2005 2005");
        Probe.shows("y yy yyy yyyy", DAYS - 1, "99 99 9999 9999");
    }

    private static void months() {
        Probe.says("m mm mmm mmmm mmmmm the month, in two digits, its first three letters (Jan ..), whole, its first "
                + "letter");
        String[] names = {"January", "February", "March", "April", "May", "June", "July", "August", "September",
            "October", "November", "December"};
        for (int k = 0; k < 12; k++) {
            // The 15th of each month of 2001, nearly.
            double v = 36906 + 30.4 * k;
            String two = k < 9 ? "0" + (k + 1) : "" + (k + 1);
            Probe.shows("m mm mmm mmmm mmmmm", v, (k + 1) + " " + two + " " + names[k].substring(0, 3) + " " + names[k] + " "
                    + names[k].charAt(0));
        }
    }

    private static void minutesBehindHours() {
        Probe.says("but m and mm are minutes if the last of the letters and elapsed ones before it (AM/PM, A/P are none) "
                + "is an h");
        double v = 36526 + 7.0 / 1440;
        for (String h : new String[] {"h", "hh", "[h]", "[hh]"}) {
            String hour = Probe.show(h, v);
            Probe.shows(h + ":m", v, hour + ":7");
            Probe.shows(h + ":mm", v, hour + ":07");
            Probe.shows(h + "m", v, hour + "7");
            Probe.shows(h + ":mmm", v, hour + ":Jan");
            Probe.shows(h + ":mmmmm", v, hour + ":J");
            Probe.shows(h + ":m m", v, hour + ":7 1");
            Probe.shows(h + " d m", v, hour + " 1 1");
            Probe.shows(h + " [s] m", v, hour + " " + (36526L * 86400 + 420) + " 1");
            Probe.shows(h + "\"d\"\\s_y-/.,m", v, hour + "ds -/.,7");
            Probe.shows("m " + h, v, "1 " + hour);
        }
        Probe.shows("h AM/PM m", v, "12 AM 7");
        Probe.shows("h A/P m", v, "12 A 7");
        Probe.shows("A/P m", v, "A 1");
        Probe.shows("[m] m", v, "52597447 1");
        Probe.shows("h;m", v, "0");
        Probe.shows("[>9]h;m", 7, "1");
    }

    private static void minutesBeforeSeconds() {
        Probe.says("or the next one behind it an s");
        double v = 36526 + 7.0 / 1440;
        for (String s : new String[] {"s", "ss", "[s]", "[ss]", "s.0"}) {
            String second = Probe.show(s, v);
            Probe.shows("m:" + s, v, "7:" + second);
            Probe.shows("mm:" + s, v, "07:" + second);
            Probe.shows("mmm:" + s, v, "Jan:" + second);
            Probe.shows("m m:" + s, v, "1 7:" + second);
            Probe.shows("m d " + s, v, "1 1 " + second);
            Probe.shows("m AM/PM " + s, v, "7 AM " + second);
            Probe.shows("m A/P " + s, v, "7 A " + second);
            Probe.shows("m [m] " + s, v, "1 52597447 " + second);
            Probe.shows(s + " m", v, second + " 1");
        }
        Probe.shows("m", v, "1");
        Probe.shows("h:m:s", v, "0:7:0");
    }

    private static void weekdays() {
        Probe.says("d dd the day, ddd dddd its name (Mon .., whole)");
        String[] names = {"Saturday", "Sunday", "Monday", "Tuesday", "Wednesday", "Thursday", "Friday"};
        for (int k = 0; k < 7; k++) {
            Probe.shows("d dd ddd dddd", 36526 + k, (k + 1) + " 0" + (k + 1) + " " + names[k].substring(0, 3) + " " + names[k]);
        }
        Probe.shows("d dd", 36535, "10 10");
        Probe.shows("d dd", 36534, "9 09");
        Probe.shows("d dd", 36556, "31 31");
        Probe.shows("ddd", DAYS - 1, "Fri");
    }

    private static void hours() {
        Probe.says("h hh hours (1 .. 12 with AM/PM or A/P)");
        for (int k = 0; k < 24; k++) {
            double v = (k + 0.5) / 24;
            int twelve = k % 12 == 0 ? 12 : k % 12;
            String two = k < 10 ? "0" + k : "" + k;
            Probe.shows("h hh", v, k + " " + two);
            Probe.shows("h A/P", v, twelve + (k < 12 ? " A" : " P"));
            Probe.shows("AM/PM hh", v, (k < 12 ? "AM " : "PM ") + (twelve < 10 ? "0" : "") + twelve);
        }
        Probe.shows("[h] A/P", 13.0 / 24, "13 P");
        Probe.shows("h;A/P", 13.0 / 24, "13");
    }

    private static void secondsAndTenths() {
        Probe.says("s ss seconds; a point and tenths");
        for (int k : new int[] {0, 1, 9, 10, 59}) {
            Probe.shows("s ss", k / 86400.0, k + (k < 10 ? " 0" : " ") + k);
        }
        Probe.shows("s ss", 60 / 86400.0, "0 00");
        Probe.shows("s.0 s.00 s.000", 1.0 / 86400, "1.0 1.00 1.000");
        Probe.shows("s.0", 9.96 / 86400, "10.0");
        Probe.shows("s.0", 59.96 / 86400, "0.0");
        Probe.shows("s.000", 0.001 / 86400, "0.001");
    }

    private static void halves() {
        Probe.says("AM or PM, A or P in great letters");
        for (String halves : new String[] {"AM/PM", "am/pm", "Am/pM"}) {
            Probe.shows(halves, 0, "AM");
            Probe.shows(halves, Math.nextDown(0.5), "PM");
            Probe.shows(halves, 0.4999, "AM");
            Probe.shows(halves, 0.5, "PM");
            Probe.shows(halves, 0.9999, "PM");
        }
        for (String halves : new String[] {"A/P", "a/p", "A/p"}) {
            Probe.shows(halves, 0.4999, "A");
            Probe.shows(halves, 0.5, "P");
        }
    }

    private static void elapsed() {
        Probe.says("elapsed ones the whole in hours, minutes, seconds, in at least as many digits as letters");
        Probe.shows("[h] [m] [s]", 0, "0 0 0");
        Probe.shows("[hh] [mm] [ss]", 0, "00 00 00");
        Probe.shows("[h] [m] [s]", 1, "24 1440 86400");
        Probe.shows("[hh] [mm] [ss]", 1, "24 1440 86400");
        Probe.shows("[hh] [mm] [ss]", 1.0 / 24 + 1.0 / 1440 + 5.0 / 86400, "01 61 3665");
        Probe.shows("[h]", 1 - 1.0 / 86400, "23");
        Probe.shows("[m]", 59.0 / 86400, "0");
        Probe.shows("[h] [m] [s]", DAYS - 1, "71003160 4260189600 255611376000");
    }

    private static void generalNought() {
        Probe.says("GENERAL: 0 for 0");
        Probe.shows("General", 0, "0");
        Probe.shows("General", -0.0, "0");
        Probe.shows("@", 0, "0");
        Probe.shows("[>1]\"x\"", 0, "0");
    }

    private static void generalBounds() {
        Probe.says("if v is below 1E11 in size and not below 1E-5");
        Probe.shows("General", 1E-5, "0.00001");
        Probe.shows("General", Math.nextDown(1E-5), "1E-05");
        Probe.shows("General", 9.87654E-6, "9.87654E-06");
        Probe.shows("General", -1E-5, "-0.00001");
        Probe.shows("General", -Math.nextDown(1E-5), "-1E-05");
        Probe.shows("General", 99999999999.0, "99999999999");
        Probe.shows("General", 1E11, "1E+11");
        Probe.shows("General", 123456789012.0, "1.23457E+11");
        Probe.shows("General", -99999999999.0, "-99999999999");
        Probe.shows("General", -1E11, "-1E+11");
    }

    private static void elevenSigns() {
        Probe.says("rounded to as many decimals that it has at most eleven characters (digits and point)");
        Probe.shows("General", 0.123456789123, "0.123456789");
        Probe.shows("General", 1.23456789123, "1.234567891");
        Probe.shows("General", 12345.6789123, "12345.67891");
        Probe.shows("General", 123456789.123, "123456789.1");
        Probe.shows("General", 123456789.15, "123456789.2");
        Probe.shows("General", 1234567891.23, "1234567891");
        Probe.shows("General", 1234567890.5, "1234567891");
        Probe.shows("General", 12345678912.3, "12345678912");
        Probe.shows("General", 12345678912.5, "12345678913");
        Probe.shows("General", -123456789.123, "-123456789.1");
        Probe.shows("General", 999999999.96, "1000000000");
        Probe.shows("General", 9999999999.5, "10000000000");
        Probe.shows("General", 99999.99999996, "100000");
        Probe.shows("General", 0.00001234567, "0.000012346");
        Probe.shows("General", 0.9999999996, "1");
        Probe.shows("General", 0.9999999994, "0.999999999");
    }

    private static void tidy() {
        Probe.says("TIDY: without zeros behind the point that could be left out, nor a point without digits behind it.");
        Probe.shows("General", 1.5, "1.5");
        Probe.shows("General", 100, "100");
        Probe.shows("General", 100.25, "100.25");
        Probe.shows("General", 0.1, "0.1");
        Probe.shows("General", 10.0000000001, "10");
        Probe.shows("General", 1.0203, "1.0203");
        Probe.shows("General", 1234567890, "1234567890");
    }

    private static void wouldBe1E11() {
        Probe.says("if that would be 1E11");
        Probe.shows("General", 99999999999.5, "1E+11");
        Probe.shows("General", Math.nextDown(99999999999.5), "99999999999");
        Probe.shows("General", -99999999999.5, "-1E+11");
        Probe.shows("General", Math.nextDown(1E11), "1E+11");
    }

    private static void sixDigits() {
        Probe.says("its exact value rounded to six digits (a half up)");
        Probe.shows("General", 123456500000.0, "1.23457E+11");
        Probe.shows("General", Math.nextDown(123456500000.0), "1.23456E+11");
        Probe.shows("General", 123457500000.0, "1.23458E+11");
        Probe.shows("General", 999999500000.0, "1E+12");
        Probe.shows("General", Math.nextDown(999999500000.0), "9.99999E+11");
        Probe.shows("General", 9.999995E-6, "1E-05");
        Probe.shows("General", 9.99999E-6, "9.99999E-06");
        Probe.shows("General", LEAST, "4.94066E-324");
    }

    private static void powerOfGeneral() {
        Probe.says("D1, a point and D2 .. without zeros at the end (no point without any), E, + or -, and p in at least "
                + "two digits");
        Probe.shows("General", 2E11, "2E+11");
        Probe.shows("General", 2.5E11, "2.5E+11");
        Probe.shows("General", 2.05E11, "2.05E+11");
        Probe.shows("General", 2E99, "2E+99");
        Probe.shows("General", 2E100, "2E+100");
        Probe.shows("General", 2E-6, "2E-06");
        Probe.shows("General", 2E-10, "2E-10");
        Probe.shows("General", 2E-100, "2E-100");
        Probe.shows("General", 1.00001E20, "1.00001E+20");
        Probe.shows("General", 1.000001E20, "1E+20");
    }

    private static void atIsGeneral() {
        Probe.says("In TEXT a number's @ is GENERAL.");
        Probe.shows("@", 1.5, "1.5");
        Probe.shows("@@", 1E11, "1E+111E+11");
        Probe.shows("\"a\"@\"b\"@", -1.5, "-a1.5b1.5");
        Probe.shows("0;0;@", 0, "0");
    }

    private static void texts() {
        Probe.says("A text is shown by the fourth section, or a TEXT that is the only section; otherwise as it is.");
        Probe.showsText("@@", "ab", "abab");
        Probe.showsText("[>5]@@", "ab", "abab");
        Probe.showsText("\"x\"", "ab", "ab");
        Probe.showsText("", "ab", "ab");
        Probe.showsText("0", "ab", "ab");
        Probe.showsText("General", "ab", "ab");
        Probe.showsText("d", "ab", "ab");
        Probe.showsText("@@;@@", "ab", "ab");
        Probe.showsText("0;@@", "ab", "ab");
        Probe.showsText("@@;0;0", "ab", "ab");
        Probe.showsText("0;0;@@", "ab", "ab");
        Probe.showsText("0;0;0;@@", "ab", "abab");
        Probe.showsText("@@;@@;@@;-@-", "ab", "-ab-");
        Probe.showsText("@;@;@;\"x\"", "ab", "x");
        Probe.showsText("@;@;@;", "ab", "");
        Probe.showsText("@", "", "");
        Probe.showsText("-@-", "", "--");
        Probe.showsText("@", "a".repeat(255), "a".repeat(255));
        Probe.showsText("0", "\"[;\\_\0\u00ff", "\"[;\\_\0\u00ff");
    }
}
