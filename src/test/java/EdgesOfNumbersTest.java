/**
 * The edges of showing: which section is taken, the sign, and NUMBER. Each sentence of the document
 * that names one has a test of its own.
 */
public final class EdgesOfNumbersTest {
    private static final double LEAST = Double.MIN_VALUE;

    public static void main(String[] args) {
        oneSection();
        twoSections();
        threeSections();
        secondCondition();
        generalAlone();
        minusBeforeAll();
        minusNeedsDigit();
        minusOfWords();
        noMinus();
        halfAway();
        exactValue();
        percents();
        thousands();
        otherCommas();
        decimals();
        noneForZero();
        leftToTheFirst();
        withoutItems();
        withoutDigit();
        groups();
        groupsRightBehind();
        groupsOfBlanks();
        behindThePoint();
        pointIsShown();
        powerNotBelowOne();
        powerOfZero();
        oneMultipleMore();
        powerShown();
        Probe.finish();
    }

    private static void oneSection() {
        Probe.says("with n 1 the first one is taken");
        for (double v : new double[] {5, LEAST, 0, -LEAST, -5}) {
            Probe.shows("\"a\"", v, "a");
        }
        Probe.shows("0", -5, "-5");
    }

    private static void twoSections() {
        Probe.says("with more the first, if .. v is above 0, with n 2 also 0, else the second .. with n 2 always");
        Probe.shows("\"a\";\"b\"", 5, "a");
        Probe.shows("\"a\";\"b\"", LEAST, "a");
        Probe.shows("\"a\";\"b\"", 0, "a");
        Probe.shows("\"a\";\"b\"", -LEAST, "b");
        Probe.shows("\"a\";\"b\"", -5, "b");
        Probe.shows("[>5]\"a\";\"b\"", 5, "b");
        Probe.shows("[>5]\"a\";\"b\"", Math.nextUp(5.0), "a");
    }

    private static void threeSections() {
        Probe.says("the first, if .. v is above 0, .. with n 3 v is below 0, .. else the third");
        for (String format : new String[] {"\"a\";\"b\";\"c\"", "\"a\";\"b\";\"c\";", "\"a\";\"b\";\"c\";\"d\""}) {
            Probe.shows(format, 5, "a");
            Probe.shows(format, LEAST, "a");
            Probe.shows(format, 0, "c");
            Probe.shows(format, -LEAST, "b");
            Probe.shows(format, -5, "b");
        }
        Probe.shows("[>5]\"a\";\"b\";\"c\"", 5, "c");
        Probe.shows("[>5]\"a\";\"b\";\"c\"", -LEAST, "b");
        Probe.shows("[<5]\"a\";\"b\";\"c\"", -5, "a");
        Probe.shows("[>5]\"a\";[>1]\"b\";\"c\"", -5, "c");
        Probe.shows("[>5]\"a\";[>1]\"b\";\"c\"", 1, "c");
        Probe.shows("[>5]\"a\";[>1]\"b\";\"c\"", Math.nextUp(1.0), "b");
        Probe.shows("\"a\";[<-1]\"b\";\"c\"", -1, "c");
        Probe.shows("\"a\";[<-1]\"b\";\"c\"", 0, "c");
        Probe.shows("\"a\";[>1]\"b\";\"c\"", 5, "a");
    }

    private static void secondCondition() {
        Probe.says("if its condition holds");
        String[][] rows = {{"<", "yes", "no", "no"}, {"<=", "yes", "yes", "no"}, {"=", "no", "yes", "no"},
            {"<>", "yes", "no", "yes"}, {">=", "no", "yes", "yes"}, {">", "no", "no", "yes"}};
        for (String[] row : rows) {
            for (double limit : new double[] {2.5, 0, -2.5}) {
                double[] values = {Math.nextDown(limit), limit, Math.nextUp(limit)};
                String condition = "[" + row[0] + (limit < 0 ? "-2.5]" : limit == 0 ? "0]" : "2.5]");
                for (int k = 0; k < 3; k++) {
                    Probe.shows(condition + "\"yes\";\"no\"", values[k], row[k + 1]);
                    Probe.shows("[=77]\"x\";" + condition + "\"yes\";\"no\"", values[k], row[k + 1]);
                }
            }
        }
    }

    private static void generalAlone() {
        Probe.says("If a condition doesn't hold with n 1, or of the second one with n 2, GENERAL alone is taken.");
        Probe.shows("[>5]\"a\"", 5, "5");
        Probe.shows("[>5]\"a\"", -5.25, "-5.25");
        Probe.shows("[>5]\"a\"", 0, "0");
        Probe.shows("[>5]\"a\"", -0.5, "-0.5");
        Probe.shows("[>5]\"a\"", -LEAST, "-4.94066E-324");
        Probe.shows("[>5]\"a\"", 6, "a");
        Probe.shows("[>5]yyyy", 1E11, "########");
        Probe.shows("[<5]yyyy", 1E11, "1E+11");
        Probe.shows("\"a\";[<-5]\"b\"", -5, "-5");
        Probe.shows("\"a\";[<-5]\"b\"", -6, "b");
        Probe.shows("\"a\";[<-5]\"b\"", 0, "a");
        Probe.shows("[>5]\"a\";[>1]\"b\"", 1, "1");
        Probe.shows("[>5]\"a\";[>1]\"b\"", -1.5, "-1.5");
        Probe.shows("[>5]\"a\";[>1]\"b\";\"c\"", 1, "c");
    }

    private static void minusBeforeAll() {
        Probe.says("SHOWN is |v|; - comes before all, if v is below 0");
        Probe.shows("\"x\"0", -5, "-x5");
        Probe.shows("\"x\"0", 5, "x5");
        Probe.shows(" .0", -5, "- 5.0");
        Probe.shows("??0", -5, "-  5");
        Probe.shows("-0", -5, "--5");
        Probe.shows("%0", -5, "-%500");
        Probe.shows("\"x\"General", -5, "-x5");
        Probe.shows("\"x\"?/?", -0.5, "-x1/2");
        Probe.shows("0;0;\"x\"0", 0, "x0");
    }

    private static void minusNeedsDigit() {
        Probe.says("and a digit that is shown isn't 0");
        Probe.shows("0", -0.5, "-1");
        Probe.shows("0", -0.49, "0");
        Probe.shows("0", -0.001, "0");
        Probe.shows("0", -LEAST, "0");
        Probe.shows("0.0000", -0.00001, "0.0000");
        Probe.shows("0,,,", -1, "0");
        Probe.shows("0.00", -0.005, "-0.01");
        Probe.shows("0.00", -0.0049, "0.00");
        Probe.shows("0.00", -0.01, "-0.01");
        Probe.shows("#", -0.4, "");
        Probe.shows("#.#", -0.04, ".");
        Probe.shows("#.#", -0.06, "-.1");
        Probe.shows("0,", -499, "0");
        Probe.shows("0,", -500, "-1");
        Probe.shows("0%", -0.004, "0%");
        Probe.shows("0%", -0.006, "-1%");
        Probe.shows("\"7\"0", -0.4, "70");
        Probe.shows("0E+0", -LEAST, "-5E-324");
        Probe.shows("0E+00", -10, "-1E+01");
        Probe.says("(of a FRACTION one of the whole part or A)");
        Probe.shows("0/9", -0.01, "0/9");
        Probe.shows("0/9", -0.1, "-1/9");
        Probe.shows("0 0/9", -0.01, "0    ");
        Probe.shows("0 0/9", -0.1, "-0 1/9");
        Probe.shows("0 0/9", -1, "-1    ");
        Probe.shows("0 0/9", -0.99, "-1    ");
        Probe.shows("# ?/?", -0.05, "    ");
    }

    private static void minusOfWords() {
        Probe.says("in a GENERAL or TEXT: always; in a PLAIN never");
        Probe.shows("General", -LEAST, "-4.94066E-324");
        Probe.shows("General", -5, "-5");
        Probe.shows("@", -LEAST, "-4.94066E-324");
        Probe.shows("\"x\"@", -5, "-x5");
        Probe.shows("\"5\"", -5, "5");
        Probe.shows("", -5, "");
        Probe.shows("[<0]\"5\"", -5, "5");
        Probe.shows("[>0]@;[<0]\"5\"", -5, "5");
        Probe.shows("[>0]@;[<0]@", -5, "-5");
    }

    private static void noMinus() {
        Probe.says("but not if the second section is taken and neither it nor the first has a condition");
        Probe.shows("0;0", -5, "5");
        Probe.shows("0;@", -5, "5");
        Probe.shows("0;General", -5, "5");
        Probe.shows("0;?/?", -0.5, "1/2");
        Probe.shows("0;0E+0", -5, "5E+0");
        Probe.shows("0;0;0", -5, "5");
        Probe.shows("0;0;0;@", -5, "5");
        Probe.shows("0;-0", -5, "-5");
        Probe.shows("[>0]0;0", -5, "-5");
        Probe.shows("0;[<0]0", -5, "-5");
        Probe.shows("[>0]0;[<0]0", -5, "-5");
        Probe.shows("[>0]0;0;0", -5, "-5");
        Probe.shows("0;[<-9]0;0", -5, "-5");
        Probe.shows("[>0]0;[<-9]0;0", -5, "-5");
        Probe.shows("0", -5, "-5");
        Probe.shows("[<0]0;0", -5, "-5");
    }

    private static void halfAway() {
        Probe.says("ROUNDING is .. a half away from 0");
        Probe.shows("0", 0.5, "1");
        Probe.shows("0", Math.nextDown(0.5), "0");
        Probe.shows("0", 1.5, "2");
        Probe.shows("0", 2.5, "3");
        Probe.shows("0", Math.nextDown(2.5), "2");
        Probe.shows("0", -0.5, "-1");
        Probe.shows("0", -2.5, "-3");
        Probe.shows("0", -Math.nextDown(2.5), "-2");
        Probe.shows("0.0", 0.25, "0.3");
        Probe.shows("0.0", -0.25, "-0.3");
        Probe.shows("0.00", 0.125, "0.13");
        Probe.shows("0.00", 0.375, "0.38");
        Probe.shows("0.00", 99.995, "100.00");
        Probe.shows("0.00", 99.994, "99.99");
        Probe.shows("0", 4503599627370495.5, "4503599627370496");
        // Nothing of a longer number is left ahead of a digit that is carried.
        Probe.shows("0", 7777777777777777.0, "7777777777777777");
        Probe.shows("0", 99999999.5, "100000000");
        NumberFormats x = new NumberFormats();
        Probe.format(x, "0.0");
        for (int power = 1; power <= 300; power++) {
            x.set(Math.scalb(1.0, -1020) * 1.7);
            x.show();
            x.set(Double.parseDouble("4E-" + (power + 1)));
            Probe.due("4E-" + (power + 1) + " after a longer one", Probe.show(x), "0.0");
        }
    }

    private static void exactValue() {
        Probe.says("ROUNDING is from the exact value");
        Probe.shows("0.00", 1.005, "1.00");
        Probe.shows("0.00", 1.015, "1.01");
        Probe.shows("0.00", 1.025, "1.02");
        Probe.shows("0.00", 8.345, "8.35");
        Probe.shows("0.0", 0.15, "0.1");
        Probe.shows("0.0", 0.45, "0.5");
        Probe.shows("0", 1E23, "99999999999999991611392");
        Probe.shows("0." + "0".repeat(60), 0.1, "0.100000000000000005551115123125782702118158340454101562500000");
        String least = Probe.show("0." + "0".repeat(250), Math.scalb(1.0, -250));
        Probe.due("2^-250", least, new java.math.BigDecimal(Math.scalb(1.0, -250)).toPlainString());
    }

    private static void percents() {
        Probe.says("each % makes it a hundred times greater");
        Probe.shows("0%", 0.5, "50%");
        Probe.shows("%0", 0.5, "%50");
        Probe.shows("0%%", 0.5, "5000%%");
        Probe.shows("%0%.0%", 0.5, "%500000%.0%");
        Probe.shows("0%", 0.125, "13%");
        // As doubles 1.115 * 100 is above 111.5, but 1.115 itself is below its half.
        Probe.shows("0%", 1.115, "111%");
        Probe.shows("0\"%\"\\%_%", 0.5, "1%% ");
        Probe.shows("0%0E+0", 0.5, "5%0E+0");
    }

    private static void thousands() {
        Probe.says("each comma right behind the last digit item before the point (or E, or the end of digit items) a "
                + "thousand times less");
        Probe.shows("0,", 499.99, "0");
        Probe.shows("0,", 500, "1");
        Probe.shows("0,", 1499, "1");
        Probe.shows("0,,", 1499999, "1");
        Probe.shows("0,,", 1500000, "2");
        Probe.shows("0,,,,", 5E11, "1");
        Probe.shows("0,.0", 1250, "1.3");
        Probe.shows("0,,.00", 1250000, "1.25");
        Probe.shows("#,##0,", 1234567890, "1,234,568");
        Probe.shows("0,\"x\"", 1500, "2x");
        Probe.shows("0,%", 1500, "150%");
        Probe.shows("0,.0E+0", 1500, "1.5E+0");
        Probe.shows("0,;,0", 1500, "2");
        Probe.shows(";0,;,0", -1500, "2");
    }

    private static void otherCommas() {
        Probe.says("another comma between two digit items before the point makes GROUPS");
        Probe.shows("0,0", 1234, "1,234");
        Probe.shows("0,,0", 1234, "1,234");
        Probe.shows("0\"-\",0", 1234, "1,23-4");
        Probe.shows("0,0,", 1234567, "1,235");
        Probe.shows(",0", 1234, "1234");
        Probe.shows(",,0", 1234, "1234");
        Probe.shows("0\"x\",", 1234, "1234x");
        Probe.shows("0%,", 12.34, "1234%");
        Probe.shows("0.0,0", 1234.5, "1234.50");
        Probe.shows("0.,0", 1234.5, "1234.5");
        Probe.shows("0;,0", 1234, "1234");
        Probe.shows("0;0,0", 1234, "1234");
        Probe.shows("0,0;0", -1234, "1234");
        Probe.shows("0.0,", 1234.5, "1234.5");
        Probe.shows("0\",\"0", 1234, "123,4");
        Probe.shows(".0,", 1234.5, "1234.5");
    }

    private static void decimals() {
        Probe.says("It is rounded to as many decimals as there are digit items behind the point.");
        double v = 0.6666666666666666;
        Probe.shows("0", v, "1");
        Probe.shows("0.", v, "1.");
        Probe.shows("0.0", v, "0.7");
        Probe.shows("0.#", v, "0.7");
        Probe.shows("0.?", v, "0.7");
        Probe.shows("0.0\"x\"0", v, "0.6x7");
        Probe.shows("0.0 0 0", v, "0.6 6 7");
        Probe.shows("00", v, "01");
        Probe.shows("0.0E+00", v, "6.7E-01");
        Probe.shows("0." + "#".repeat(253), 0.5, "0.5");
    }

    private static void noneForZero() {
        Probe.says("Before the point the digits (none for 0)");
        Probe.shows("#", 0, "");
        Probe.shows("#", 0.4, "");
        Probe.shows("#", 0.5, "1");
        Probe.shows("?", 0, " ");
        Probe.shows("0", 0, "0");
        Probe.shows("###", 0, "");
        Probe.shows("#.0", 0.4, ".4");
        Probe.shows("#,###", 0, "");
        Probe.shows("#\"x\"#", 0, "x");
    }

    private static void leftToTheFirst() {
        Probe.says("are put to the items from the last to the first, all that are left to the first one");
        Probe.shows("0", 12345, "12345");
        Probe.shows("0-0", 12345, "1234-5");
        Probe.shows("#-#-#", 12345, "123-4-5");
        Probe.shows("?-0", 12345, "1234-5");
        Probe.shows("0-0-0-0-0", 12345, "1-2-3-4-5");
        Probe.shows("0-0-0-0-0-0", 12345, "0-1-2-3-4-5");
        Probe.shows("\"a\"0\"b\"0\"c\"", 123, "a12b3c");
        Probe.shows("0", 1E20, "1" + "0".repeat(20));
    }

    private static void withoutItems() {
        Probe.says("(without items they stand before the point)");
        Probe.shows(".0", 12345, "12345.0");
        Probe.shows(".0", 0, ".0");
        Probe.shows(".0", 0.96, "1.0");
        Probe.shows(".#", 7, "7.");
        Probe.shows("\"x\"\"y\".0", 12, "xy12.0");
        Probe.shows(",.0", 1234, "1234.0");
        Probe.shows("%.0", 12, "%1200.0");
        Probe.shows(".0", -12, "-12.0");
    }

    private static void withoutDigit() {
        Probe.says("an item without a digit that has a 0 item before it, or is one, shows 0, other ones: # nothing, "
                + "? a blank");
        Probe.shows("0", 0, "0");
        Probe.shows("00", 1, "01");
        Probe.shows("0#", 0, "00");
        Probe.shows("0?", 0, "00");
        Probe.shows("0#?", 1, "001");
        Probe.shows("#0", 0, "0");
        Probe.shows("?0", 0, " 0");
        Probe.shows("#0#", 0, "00");
        Probe.shows("?0#", 0, " 00");
        Probe.shows("#?", 1, "1");
        Probe.shows("?#", 1, " 1");
        Probe.shows("?#?", 0, "  ");
        Probe.shows("##", 1, "1");
        Probe.shows("#\"0\"#", 1, "01");
        Probe.shows("?".repeat(255), 0, " ".repeat(255));
        Probe.shows("0".repeat(255), 7, "0".repeat(254) + "7");
    }

    private static void groups() {
        Probe.says("Groups: a comma between each three shown digits from the point on");
        Probe.shows("#,##0", 0, "0");
        Probe.shows("#,##0", 100, "100");
        Probe.shows("#,##0", 999, "999");
        Probe.shows("#,##0", 999.5, "1,000");
        Probe.shows("#,##0", 1000, "1,000");
        Probe.shows("#,##0", 999999, "999,999");
        Probe.shows("#,##0", 1000000, "1,000,000");
        Probe.shows("#,##0", 1E21, "1,000,000,000,000,000,000,000");
        Probe.shows("0,000", 0, "0,000");
        Probe.shows("000,000", 12, "000,012");
        Probe.shows("0,000,000", 12, "0,000,012");
        Probe.shows("#,###", 12, "12");
        Probe.shows("#,##0.0000", 1234.5678, "1,234.5678");
        Probe.shows("#,##0E+000", 12345, "1E+004");
        Probe.shows("#,##0", -1000, "-1,000");
        // A # that shows nothing is no shown digit.
        Probe.shows("?,##0", 5, " 5");
        Probe.shows("?,???,##0", 5, "     5");
        Probe.shows("?,??\"x\"#,#00", 5, "    x05");
        Probe.shows("??,#00", 5, "   05");
        Probe.shows("?,#00,000", 5, " 00,005");
        Probe.shows("0#,###", 5, "00,005");
    }

    private static void groupsRightBehind() {
        Probe.says("a comma .. right behind the digit");
        Probe.shows("0,\"x\"000", 1234, "1,x234");
        Probe.shows("0,000\"x\"000\"y\"", 1234567, "1,234,x567y");
        Probe.shows("0,0\"x\"00", 1234, "1,2x34");
        Probe.shows("\"x\"0,0", 1234, "x1,234");
        Probe.shows("0,0\"x\".0", 1234, "1,234x.0");
    }

    private static void groupsOfBlanks() {
        Probe.says("(a blank instead, if what is left of it is a blank)");
        Probe.shows("?,???", 0, "     ");
        Probe.shows("?,???", 123, "  123");
        Probe.shows("?,???", 1234, "1,234");
        Probe.shows("?,???,???", 1234, "    1,234");
        Probe.shows("?,??0,000", 1, "    0,001");
        Probe.shows("?,000", 1, "  001");
        Probe.shows("??,???.0", 12.5, "    12.5");
    }

    private static void behindThePoint() {
        Probe.says("Behind the point each item has its digit; behind the last digit that isn't 0 and the last 0 item "
                + "# shows nothing, ? a blank.");
        Probe.shows("0.###", 0, "0.");
        Probe.shows("0.###", 0.5, "0.5");
        Probe.shows("0.###", 0.05, "0.05");
        Probe.shows("0.###", 0.0004, "0.");
        Probe.shows("0.###", 0.0005, "0.001");
        Probe.shows("0.???", 0, "0.   ");
        Probe.shows("0.???", 0.5, "0.5  ");
        Probe.shows("0.???", 0.005, "0.005");
        Probe.shows("0.0#?", 0, "0.0 ");
        Probe.shows("0.#0?", 0, "0.00 ");
        Probe.shows("0.?#0", 0, "0.000");
        Probe.shows("0.#?0#?", 0.5, "0.500 ");
        Probe.shows("0.#?0#?", 0.0005, "0.0005 ");
        Probe.shows("0.?#?", 0.25, "0.25 ");
        Probe.shows("0.#\"a\"#\"b\"?\"c\"", 0.5, "0.5ab c");
    }

    private static void pointIsShown() {
        Probe.says(". is shown, commas are not, % and others where they are");
        Probe.shows("0.", 5, "5.");
        Probe.shows("#.", 0, ".");
        Probe.shows("#.#", 0, ".");
        Probe.shows(".#", 0, ".");
        Probe.shows(",0,.,0,", 5000, "5.0");
        Probe.shows("%0%.%0%", 0, "%0%.%0%");
        Probe.shows("-0-.-0-", 5, "-5-.-0-");
    }

    private static void powerNotBelowOne() {
        Probe.says("with i digit items before the point (1 if none) the power is the greatest multiple of i for which it "
                + "isn't below 1");
        Probe.shows("0.00E+0", 1, "1.00E+0");
        Probe.shows("0.00E+0", 0.99, "9.90E-1");
        Probe.shows("0.00E+0", 9.99, "9.99E+0");
        Probe.shows("0.00E+0", 10, "1.00E+1");
        Probe.shows(".00E+0", 10, "1.00E+1");
        Probe.shows(".00E+0", 0.5, "5.00E-1");
        Probe.shows("00.00E+0", 10, "10.00E+0");
        Probe.shows("00.00E+0", 99, "99.00E+0");
        Probe.shows("00.00E+0", 100, "01.00E+2");
        Probe.shows("##0.00E+0", 1, "1.00E+0");
        Probe.shows("##0.00E+0", 999, "999.00E+0");
        Probe.shows("##0.00E+0", 1000, "1.00E+3");
        Probe.shows("##0.00E+0", 0.75, "750.00E-3");
        Probe.shows("##0.00E+0", 0.001, "1.00E-3");
        Probe.shows("##0.00E+0", 0.00075, "750.00E-6");
        Probe.shows("0.0E+0", LEAST, "4.9E-324");
        Probe.shows("0.0E+0", Math.nextDown(1E300), "1.0E+300");
        Probe.shows("0\"x\"0.0E+0", 12345, "0x1.2E+4");
        Probe.shows("0%.0E+0", 0.05, "5%.0E+0");
        Probe.shows("0,.0E+0", 5, "5.0E-3");
    }

    private static void powerOfZero() {
        Probe.says("(0 for 0)");
        Probe.shows("0E+0", 0, "0E+0");
        Probe.shows("0.00E-0", 0, "0.00E0");
        Probe.shows("##0.0E+00", 0, "0.0E+00");
        Probe.shows("###.#E+#", 0, ".E+");
        Probe.shows("0%0E+0", 0, "0%0E+0");
        NumberFormats x = new NumberFormats();
        Probe.format(x, "0.0E+0");
        x.set(12345);
        Probe.due("another one before", Probe.show(x), "1.2E+4");
        x.set(0);
        Probe.due("0 after it", Probe.show(x), "0.0E+0");
    }

    private static void oneMultipleMore() {
        Probe.says("one multiple more, if rounding makes it 10 to the i");
        Probe.shows("0E+0", 9.5, "1E+1");
        Probe.shows("0E+0", Math.nextDown(9.5), "9E+0");
        Probe.shows("0.0E+0", 9.95, "9.9E+0");
        Probe.shows("0.0E+0", 9.951, "1.0E+1");
        Probe.shows("0E+0", 0.95, "9E-1");
        Probe.shows("0E+0", 0.96, "1E+0");
        Probe.shows("##0E+0", 999.5, "1E+3");
        Probe.shows("##0E+0", Math.nextDown(999.5), "999E+0");
        Probe.shows("##0.0E+0", 999.95, "1.0E+3");
        Probe.shows("##0.0E+0", 999.94, "999.9E+0");
        Probe.shows("##0E+0", 99.5, "100E+0");
        Probe.shows("##0E+0", 0.9996, "1E+0");
        Probe.shows("000E+0", 999999.5, "001E+6");
        Probe.shows("0E-0", 0.96, "1E0");
        Probe.shows("0E+0", -9.5, "-1E+1");
    }

    private static void powerShown() {
        Probe.says("E, then - or (for E+) +, and the power by its items like digits before a point");
        Probe.shows("0E+0", 100, "1E+2");
        Probe.shows("0E-0", 100, "1E2");
        Probe.shows("0e+0", 0.01, "1E-2");
        Probe.shows("0e-0", 0.01, "1E-2");
        Probe.shows("0E+0", 1, "1E+0");
        Probe.shows("0E-0", 1, "1E0");
        Probe.shows("0E+#", 1, "1E+");
        Probe.shows("0E-?", 1, "1E ");
        Probe.shows("0E+000", 1E5, "1E+005");
        Probe.shows("0E+0", 2E120, "2E+120");
        Probe.shows("0E+##", 2E120, "2E+120");
        Probe.shows("0E+?#0", 100, "1E+ 2");
        Probe.shows("0E+0?#", 100, "1E+002");
        Probe.shows("0E-???", 0.01, "1E-  2");
        Probe.shows("#,##0E+0", 12345, "1E+4");
        Probe.shows("%".repeat(240) + "#,##0E+0", 2E299, "%".repeat(240) + "2,000E+776");
        Probe.shows("0,0" + ",".repeat(240) + ".0E+0", 1E-300, "01.0E-1020");
    }
}
