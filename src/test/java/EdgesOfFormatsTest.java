/**
 * The edges of "Terms" that tell what a format is and where a text is ILL: each sentence of the
 * document that names one has a test of its own.
 */
public final class EdgesOfFormatsTest {
    public static void main(String[] args) {
        oneToFour();
        quoted();
        escaped();
        atMostFour();
        divisors();
        letterSizes();
        themselves();
        conditions();
        conditionPlaces();
        elapsed();
        sorts();
        plainEmpty();
        fourth();
        generalOnce();
        tenths();
        noOthersInDate();
        words();
        onePoint();
        exponentOnce();
        exponentBehind();
        exponentFollowed();
        slashOnce();
        slashNeighbours();
        fractionWithout();
        firstFromTheLeft();
        beginsNone();
        withoutEnd();
        tooLong();
        allItemsTell();
        ownPlaces();
        fifth();
        fourthsFirst();
        Probe.finish();
    }

    private static void oneToFour() {
        Probe.says("A FORMAT is a text of one to four SECTIONS with ; between.");
        Probe.formats("", "1");
        Probe.formats(";", "2");
        Probe.formats(";;", "3");
        Probe.formats(";;;", "4");
        Probe.formats(";;;;", "ill 3");
        Probe.formats("0;0", "2");
        Probe.formats("0;0;0", "3");
        Probe.formats("0;0;0;@", "4");
        Probe.formats(";".repeat(255), "ill 3");
        Probe.formats("\";;;;\"\\;_;;", "2");
    }

    private static void quoted() {
        Probe.says("\" characters \" (these, but \"; each is an item, with nothing between there is none)");
        Probe.shows("\"\"", 5, "");
        Probe.shows("\"a\"", 5, "a");
        Probe.shows("\"\\_;[0d\"", 5, "\\_;[0d");
        Probe.shows("\"a\"\"b\"", 5, "ab");
        Probe.shows("\"" + "a".repeat(253) + "\"", 5, "a".repeat(253));
        Probe.formats("\"\"[>1]0", "1");
        Probe.formats("\"a\"[>1]0", "ill 3");
        Probe.formats(";;;\"\"0", "ill 5");
        Probe.formats(";;;\"a\"0", "ill 4");
    }

    private static void escaped() {
        Probe.says("a backslash and a character (it); _ and a character (a blank)");
        for (int sign = 0; sign < 256; sign++) {
            Probe.shows("\\" + (char) sign, 5, "" + (char) sign);
            Probe.shows("_" + (char) sign, 5, " ");
        }
    }

    private static void row(String letter, int most) {
        for (int n = 1; n <= 8; n++) {
            String small = letter.repeat(n);
            String great = small.toUpperCase();
            String mixed = small.substring(1) + great.charAt(0);
            String want = n <= most ? "1" : "ill 1";
            Probe.formats(" " + small, want);
            Probe.formats(" " + great, want);
            Probe.formats(" " + mixed, want);
        }
        Probe.formats(letter.repeat(most) + "\"\"" + letter.repeat(most), "1");
        Probe.formats(letter.repeat(255), "ill 0");
    }

    private static void atMostFour() {
        Probe.says("as many as there are of the same letter y, m, d, h, s (at most four; of m also five, "
                + "of h and s at most two)");
        row("y", 4);
        row("m", 5);
        row("d", 4);
        row("h", 2);
        row("s", 2);
    }

    private static void divisors() {
        Probe.says("right behind a / one to three digits, the first not 0 (a DIVISOR; only in a FRACTION)");
        String[] right = {"0/1", "0/9", "0/10", "0/99", "0/100", "0/999", "# ?/8 \"x\"", "?/16"};
        for (String format : right) {
            Probe.formats(format, "1");
        }
        Probe.formats("0/1234", "ill 5");
        Probe.formats("0/9999", "ill 5");
        Probe.formats("0/1230", "ill 5");
        Probe.formats("0/01", "ill 3");
        Probe.formats("0/ 1", "ill 1");
        Probe.formats("1", "ill 0");
        Probe.formats("0 1", "ill 2");
        Probe.formats("0\"/\"1", "ill 4");
        Probe.formats("0\\/1", "ill 3");
        Probe.formats("/1", "ill 1");
        Probe.formats("@/1", "ill 2");
        Probe.formats("General/1", "ill 8");
        Probe.formats("d/1", "ill 2");
        Probe.formats("0 /1", "ill 2");
        Probe.shows("0/1", 3, "3/1");
        Probe.shows("0/999", 1, "999/999");
    }

    private static void letterSizes() {
        Probe.says("each of these letters great or small");
        for (String format : new String[] {"general", "GENERAL", "gEnErAl", "am/pm", "AM/PM", "Am/pM", "a/p", "A/P",
            "a/P", "0e+0", "0E+0", "0e-0", "0E-0", "YyYy", "mMmMm", "dDDd", "hH", "Ss", "[H]", "[hH]", "[M]", "[sS]"}) {
            Probe.formats(format, "1");
        }
        Probe.shows("0e+0", 5, "5E+0");
        Probe.shows("am/pm a/p", 0.5, "PM P");
    }

    private static void themselves() {
        Probe.says("themselves are ! $ & ' ( ) * + - : < = > ^ { | } ~ the blank and codes above 126");
        String own = "!$&'()*+-:<=>^{|}~ ";
        for (int sign = 0; sign < 256; sign++) {
            String one = "" + (char) sign;
            if (sign > 126 || own.contains(one)) {
                Probe.shows(one, 5, one);
                Probe.shows("0" + one, 5, "5" + one);
                Probe.shows("@" + one, 5, "5" + one);
                Probe.shows("yyyy" + one, 5, "1900" + one);
            } else if ("0#?.,%/@;".contains(one) || "ymdhs".contains(one.toLowerCase())) {
                Probe.due("sign " + sign, Probe.format(one).startsWith("ill"), false);
            } else {
                Probe.formats(one, "ill 0");
                Probe.formats("0" + one, "ill 1");
            }
        }
    }

    private static void conditions() {
        Probe.says("a CONDITION: < <= = <> >= or >, perhaps -, one to nine digits, perhaps a point and one to "
                + "nine digits");
        for (String relation : new String[] {"<", "<=", "=", "<>", ">=", ">"}) {
            for (String minus : new String[] {"", "-"}) {
                String open = "[" + relation + minus;
                for (String number : new String[] {"0", "9", "123456789", "000000000", "0.0", "5.123456789",
                    "123456789.123456789", "123456789.1"}) {
                    Probe.formats(open + number + "]", "1");
                }
                for (String number : new String[] {"", ".", ".5", "5.", "1234567890", "0000000000", "1.1234567890",
                    "1234567890.1", "5.5.", "5.5.5", "5 ", " 5", "5,5", "5E1", "-5".repeat(minus.isEmpty() ? 2 : 1),
                    "+5", "A", "/", ":"}) {
                    Probe.formats(open + number + "]", "ill 0");
                }
            }
        }
        for (String wrong : new String[] {"5", "-5", "!=5", "==5", "=<5", "=>5", "><5", "<<5", ">>5", "<=>5", "<>=5", "5>"}) {
            Probe.formats("[" + wrong + "]", "ill 0");
        }
        Probe.says("(the double nearest to it)");
        for (String number : new String[] {"0.1", "0.7", "2.675", "999999999.999999999", "123456789.987654321",
            "0.000000001", "0.999999999", "100000000.000000001", "1.000000000", "000000000.500000000"}) {
            double v = Double.parseDouble(number);
            Probe.shows("[=" + number + "]\"y\";\"n\"", v, "y");
            Probe.shows("[=" + number + "]\"y\";\"n\"", Math.nextUp(v), "n");
            Probe.shows("[=" + number + "]\"y\";\"n\"", Math.nextDown(v), "n");
            Probe.shows("[=-" + number + "]\"y\";\"n\"", -v, "y");
            Probe.shows("[=-" + number + "]\"y\";\"n\"", v, "n");
        }
        Probe.shows("[=-0]\"y\";\"n\"", 0, "y");
    }

    private static void conditionPlaces() {
        Probe.says("the first item of the first or second section");
        Probe.formats("[>1]0", "1");
        Probe.formats("0;[>1]0", "2");
        Probe.formats("[>1]0;[>1]0;0;@", "4");
        Probe.formats("[>1];[>1]", "2");
        Probe.formats("0[>1]", "ill 1");
        Probe.formats(" [>1]0", "ill 1");
        Probe.formats("[>1][>1]0", "ill 4");
        Probe.formats("0;0[>1]", "ill 3");
        Probe.formats("0;[>1][>1]0", "ill 6");
        Probe.formats("0;0;[>1]0", "ill 4");
        Probe.formats(";;[>1]", "ill 2");
        Probe.formats(";;;[>1]@", "ill 3");
        Probe.formats("[>1]yy;[>1]@;General", "3");
        for (String[] row : new String[][] {{"0", "5"}, {"?/1", "5/1"}, {"yyyy", "1900"}, {"@", "5"}, {"General", "5"},
            {"\"x\"", "x"}, {"", ""}, {"0E+0", "5E+0"}}) {
            Probe.shows("[>1]" + row[0], 5, row[1]);
            Probe.shows("[>9]0;[>1]" + row[0], 5, row[1]);
        }
        Probe.shows("[>1]@", 5, "5");
        Probe.showsText("[>1]@", "ab", "ab");
        // An empty first section has none, though the next one begins with one.
        Probe.shows(";[<-1]\"b\"", 5, "");
        Probe.shows(";[<-1]\"b\"", -5, "b");
        Probe.shows(";[<-1]\"b\"", -0.5, "-0.5");
    }

    private static void elapsed() {
        Probe.says("or [h] [hh] [m] [mm] [s] [ss] (ELAPSED)");
        for (String right : new String[] {"[h]", "[hh]", "[m]", "[mm]", "[s]", "[ss]"}) {
            Probe.formats(right, "1");
            Probe.formats("0;0;" + right, "3");
            Probe.formats("\"x\"" + right + right, "1");
        }
        for (String wrong : new String[] {"[]", "[hhh]", "[mmm]", "[sss]", "[hm]", "[ms]", "[sh]", "[d]", "[dd]", "[y]",
            "[yy]", "[ h]", "[h ]", "[h0]", "[Red]", "[0]", "[General]", "[[h]"}) {
            Probe.formats(wrong, "ill 0");
        }
        Probe.formats("[h]]", "ill 3");
        // A bracket reaches from its [ to the next ], and what stands in a wrong one tells no sort.
        Probe.formats("0[]d]", "ill 0");
        Probe.formats("0[]0]", "ill 1");
        Probe.formats("0[x]d", "ill 0");
        Probe.formats("0[x]@", "ill 0");
        Probe.formats("0[d]", "ill 1");
        Probe.formats("0[d;]0", "ill 1");
    }

    private static void sorts() {
        Probe.says("DATE if it has an item of y m d h s, an elapsed one, AM/PM or A/P; otherwise TEXT if it has @; "
                + "otherwise GENERAL if it has GENERAL; otherwise NUMBER if it has a digit item; otherwise PLAIN");
        for (String date : new String[] {"y", "m", "d", "h", "s", "[h]", "[m]", "[s]", "AM/PM", "A/P"}) {
            Probe.formats("0" + date, "ill 0");
            Probe.formats("@" + date, "ill 0");
            Probe.formats("General" + date, "ill 0");
            Probe.formats("%" + date, "ill 0");
            Probe.shows(date, -1, "########");
        }
        Probe.formats("0@", "ill 0");
        Probe.formats("0General", "ill 0");
        Probe.shows("%@", 5, "%5");
        Probe.shows("%General", 5, "%5");
        for (String digit : new String[] {"0", "#", "?"}) {
            Probe.shows("%" + digit, 5, "%500");
        }
        Probe.shows("%", 5, "%");
    }

    private static void plainEmpty() {
        Probe.says("otherwise PLAIN (also an empty one: an empty text has one)");
        Probe.formats("", "1");
        Probe.shows("", -5, "");
        Probe.shows("0;", -5, "");
        Probe.shows(";0", 5, "");
        Probe.shows("0;0;", 0, "");
        Probe.formats("0;0;0;", "4");
        Probe.shows("\"\"", -5, "");
    }

    private static void fourth() {
        Probe.says("The fourth must be TEXT or PLAIN.");
        for (String right : new String[] {"", "@", "@@", "\"x\"", "\"x\"@", ".,/%", "\"0\"", "\\d", "-", "@/%"}) {
            Probe.formats("0;0;0;" + right, "4");
        }
        for (String wrong : new String[] {"0", "#", "?", "0.0", "General", "d", "[h]", "A/P", "0/0", "0E+0"}) {
            Probe.formats("0;0;0;" + wrong, "ill 6");
            Probe.formats("0;0;" + wrong, "3");
            Probe.formats(wrong + ";0;0;", "4");
        }
    }

    private static void generalOnce() {
        Probe.says("otherwise GENERAL if it has GENERAL (once)");
        Probe.formats("General", "1");
        Probe.formats("General;General;General", "3");
        Probe.formats("GeneralGeneral", "ill 7");
        Probe.formats("General General General", "ill 8");
        Probe.formats("\"General\"General", "1");
    }

    private static void tenths() {
        Probe.says("a point right behind s, ss, [s] or [ss] with one to three 0 right behind it (TENTHS); no other "
                + "digit items");
        for (String seconds : new String[] {"s", "ss", "[s]", "[ss]", "S", "[Ss]"}) {
            int at = seconds.length();
            Probe.formats(seconds + ".", "1");
            Probe.formats(seconds + ".0", "1");
            Probe.formats(seconds + ".00", "1");
            Probe.formats(seconds + ".000", "1");
            Probe.formats(seconds + ".0000", "ill " + (at + 4));
            Probe.formats(seconds + ".#", "ill " + (at + 1));
            Probe.formats(seconds + ".?", "ill " + (at + 1));
            Probe.formats(seconds + ".0#", "ill " + (at + 2));
            Probe.formats(seconds + ". 0", "ill " + (at + 2));
            Probe.formats(seconds + " .0", "ill " + (at + 2));
            Probe.formats(seconds + "..0", "ill " + (at + 2));
            Probe.formats(seconds + ",0", "ill " + (at + 1));
            Probe.formats(seconds + "0", "ill " + at);
            Probe.formats(seconds + ".0 " + seconds + ".000", "1");
            Probe.formats(seconds + ".0.0", "ill " + (at + 3));
        }
        for (String others : new String[] {"h", "m", "d", "y", "[h]", "[m]", "A/P"}) {
            Probe.formats(others + ".", "1");
            Probe.formats(others + ".0", "ill " + (others.length() + 1));
        }
        Probe.shows("s.", 0, "0.");
        Probe.shows("s.0", 0, "0.0");
        Probe.shows("[ss].000", 0, "00.000");
    }

    private static void noOthersInDate() {
        Probe.says("In a DATE . , / are themselves .. no other digit items, no % E @ GENERAL.");
        Probe.shows("d.d,d/d", 1, "31.31,31/31");
        for (String wrong : new String[] {"0", "#", "?", "%", "E+", "e-", "@", "General"}) {
            Probe.formats("d" + wrong, "ill 1");
            Probe.formats(wrong + "d", "ill 0");
            Probe.formats("[h] " + wrong + " A/P", "ill 4");
        }
    }

    private static void words() {
        Probe.says("In TEXT, GENERAL and PLAIN . , / % are themselves; no digit items, no E.");
        for (String sort : new String[] {"@", "General", "-"}) {
            String shown = sort.equals("-") ? "-" : "5";
            Probe.shows(sort + ".,/%", 5, shown + ".,/%");
            Probe.shows(".,/%" + sort, 5, ".,/%" + shown);
            Probe.shows(sort + "..,,//%%", 5, shown + "..,,//%%");
        }
        for (String sort : new String[] {"@", "General"}) {
            for (String wrong : new String[] {"0", "#", "?", "E+", "e-"}) {
                Probe.formats(sort + wrong, "ill " + sort.length());
                Probe.formats(wrong + sort, "ill 0");
            }
        }
        Probe.formats("-E+", "ill 1");
        Probe.formats("e-", "ill 0");
    }

    private static void onePoint() {
        Probe.says("In a NUMBER one point at most");
        Probe.formats("0", "1");
        Probe.formats("0.", "1");
        Probe.formats(".0", "1");
        Probe.formats("0.0", "1");
        Probe.formats("0..", "ill 2");
        Probe.formats("..0", "ill 1");
        Probe.formats("0.0.0", "ill 3");
        Probe.formats(". . .0", "ill 2");
        Probe.formats("0\".\"\\.0.0", "1");
        Probe.formats("0.0;0.0;0.0", "3");
    }

    private static void exponentOnce() {
        Probe.says("E once at most");
        Probe.formats("0E+0E+0", "ill 4");
        Probe.formats("0E+00E-0", "ill 5");
        Probe.formats("0E+0;0E-0;0E+0", "3");
    }

    private static void exponentBehind() {
        Probe.says("E .. right behind a digit item");
        for (String right : new String[] {"0E+0", "#E+0", "?E+0", "0.0E+0", ".0E+0", "0.#E-0"}) {
            Probe.formats(right, "1");
        }
        Probe.formats("E+0", "ill 0");
        Probe.formats("0.E+0", "ill 2");
        Probe.formats("0,E+0", "ill 2");
        Probe.formats("0%E+0", "ill 2");
        Probe.formats("0 E+0", "ill 2");
        Probe.formats("0\"x\"E+0", "ill 4");
        Probe.formats("0;E+0", "ill 2");
        Probe.formats("[>1]E+0", "ill 4");
    }

    private static void exponentFollowed() {
        Probe.says("E .. itself followed by digit items alone (one to three) up to the section's end");
        Probe.formats("0E+0", "1");
        Probe.formats("0E+0#", "1");
        Probe.formats("0E+0#?", "1");
        Probe.formats("0E+0#?0", "ill 6");
        Probe.formats("0E+0000;x", "ill 6");
        Probe.formats("0E+", "ill 1");
        Probe.formats("0E+;", "ill 1");
        Probe.formats("0E+ ", "ill 1");
        Probe.formats("0E+.0", "ill 1");
        Probe.formats("0E+\"x\"0", "ill 1");
        for (String wrong : new String[] {" ", ".", ",", "%", "/", "-", "\"x\"", "\\x", "_x", "[>1]"}) {
            Probe.formats("0E+0" + wrong, "ill " + (wrong.equals("\"x\"") ? 5 : 4));
            // A / between two digit items is right, so the E is what can't stand in a FRACTION.
            String inside = wrong.equals("\"x\"") ? "ill 6" : wrong.equals("/") ? "ill 1" : "ill 5";
            Probe.formats("0E+00" + wrong + "0", inside);
        }
        Probe.formats("0E+0;0E+000;0", "3");
    }

    private static void slashOnce() {
        Probe.says("/ once at most");
        Probe.formats("0/0", "1");
        Probe.formats("0/0/0", "ill 3");
        Probe.formats("0/0 /", "ill 4");
        Probe.formats("0/8/8", "ill 3");
        Probe.formats("0/0\"/\"\\/", "1");
        Probe.formats("0/0;0/0;0/0", "3");
    }

    private static void slashNeighbours() {
        Probe.says("/ .. right behind a digit item and right before one to three digit items or digits, no digit item "
                + "behind them");
        for (String right : new String[] {"0/0", "#/#", "?/?", "0/00", "0/0#?", "0/1", "0/12", "0/123", "0 0/0", "-0/0-"}) {
            Probe.formats(right, "1");
        }
        Probe.formats("/0", "ill 0");
        Probe.formats("0 /0", "ill 2");
        Probe.formats("0\"x\"/0", "ill 4");
        Probe.formats("0./0", "ill 2");
        Probe.formats("0%/0", "ill 2");
        Probe.formats("0/", "ill 1");
        Probe.formats("0/;0", "ill 1");
        Probe.formats("0/ 0", "ill 1");
        Probe.formats("0/.0", "ill 1");
        Probe.formats("0/\"x\"0", "ill 1");
        Probe.formats("0/-", "ill 1");
        Probe.formats("0/0000", "ill 5");
        Probe.formats("0/0 0", "ill 4");
        Probe.formats("0/00\"x\"#", "ill 7");
        Probe.formats("0/12?", "ill 4");
        Probe.formats("0/8 ?", "ill 4");
    }

    private static void fractionWithout() {
        Probe.says("then it is a FRACTION without point, comma, E, %");
        for (String wrong : new String[] {".", ",", "%", "E+"}) {
            Probe.formats(wrong + "0/0", "ill 0");
            Probe.formats("0" + wrong + "0/0", "ill 1");
            Probe.formats("0/0" + wrong, "ill 3");
            Probe.formats("0/8" + wrong, "ill 3");
        }
        for (String right : new String[] {".", ",", "%"}) {
            Probe.formats("0/0;0" + right, "2");
        }
    }

    private static void firstFromTheLeft() {
        Probe.says("ILL at a place: the place of the first item, from the left, that isn't one .. or can't stand there");
        Probe.formats("xx", "ill 0");
        Probe.formats("0xx", "ill 1");
        Probe.formats("0.0.x", "ill 3");
        Probe.formats("0x0.0.", "ill 1");
        Probe.formats("0;0.0.;x", "ill 5");
        Probe.formats("0;x;;;", "ill 2");
        Probe.formats("0;;;x;", "ill 4");
        Probe.formats("\\xx", "ill 2");
        Probe.formats("\"x\"x", "ill 3");
        Probe.formats("[h]x", "ill 3");
        Probe.formats("Generalx", "ill 7");
    }

    private static void beginsNone() {
        Probe.says("(a character that begins none .. is by itself one that isn't)");
        for (String wrong : new String[] {"x", "1", "9", "]", "`", "\0", "\u001f", "E", "e", "G", "A", "P", "B", "z"}) {
            Probe.formats(wrong, "ill 0");
            Probe.formats("0" + wrong, "ill 1");
        }
        // By itself: what stands behind it is read on, and tells the sort.
        Probe.formats("0AM", "ill 0");
        Probe.formats("0Ed", "ill 0");
        Probe.formats("0xd", "ill 0");
        Probe.formats("0x@", "ill 0");
        Probe.formats("0E", "ill 1");
        Probe.formats("0E0", "ill 1");
        Probe.formats("0Genera", "ill 1");
        Probe.formats("0A/", "ill 1");
        Probe.formats("0A/x", "ill 1");
        Probe.formats("0xeneral", "ill 1");
        Probe.formats("0GeneraL", "ill 0");
        Probe.formats("0xM/PM", "ill 0");
        Probe.formats("x/P", "ill 0");
        Probe.formats("0x/P", "ill 1");
    }

    private static void withoutEnd() {
        Probe.says("(.. a quote, bracket, backslash or _ without its end, is by itself one that isn't)");
        for (String wrong : new String[] {"\"", "[", "\\", "_"}) {
            Probe.formats(wrong, "ill 0");
            Probe.formats("0" + wrong, "ill 1");
            Probe.formats("0;0;0;@" + wrong, "ill 7");
            Probe.formats(" ".repeat(254) + wrong, "ill 254");
            Probe.formats(" ".repeat(253) + "\\" + wrong, "1");
        }
        Probe.formats("\"\"\"", "ill 2");
        Probe.formats("\\\\\\", "ill 2");
        Probe.formats("___", "ill 2");
        Probe.formats("[h][", "ill 3");
        // By itself: what stands behind it is read on, and tells the sort.
        Probe.formats("0\"d", "ill 0");
        Probe.formats("0\"@", "ill 0");
        Probe.formats("0[d", "ill 0");
        Probe.formats("0[>1", "ill 1");
        Probe.formats("0\"0", "ill 1");
    }

    private static void tooLong() {
        Probe.says("(.. and so is a row of the same letter that is too long)");
        for (String wrong : new String[] {"yyyyy", "mmmmmm", "ddddd", "hhh", "sss", "yYyYyY", "HhH"}) {
            Probe.formats(wrong, "ill 0");
            Probe.formats("0" + wrong, "ill 1");
            Probe.formats("d" + wrong.replace('d', 'y'), "ill 1");
        }
    }

    private static void allItemsTell() {
        Probe.says("its section's sort, which all the items in it that are some tell");
        Probe.formats("0 x yy", "ill 0");
        Probe.formats("0 x \"yy\" \\y _y", "ill 2");
        Probe.formats("0 x;yy", "ill 2");
        Probe.formats("0 yyyyy", "ill 2");
        Probe.formats("0 [yy]", "ill 2");
        Probe.formats("0 [>1]yy", "ill 0");
        Probe.formats("0 x @", "ill 0");
        Probe.formats("% x General 0", "ill 2");
        Probe.formats("0.0 x 0/0", "ill 1");
        Probe.formats("yy;0;@;0", "ill 7");
    }

    private static void ownPlaces() {
        Probe.says("(of E and / without what must be right before or behind them: their own place, what can't follow "
                + "E: its; a / that is wrong makes no FRACTION)");
        Probe.formats("0 E+0", "ill 2");
        Probe.formats("00E+x", "ill 2");
        Probe.formats("00E+00x", "ill 6");
        Probe.formats("00E+0 0", "ill 5");
        Probe.formats("00 /0", "ill 3");
        Probe.formats("00/x", "ill 2");
        Probe.formats("0.0,0%/", "ill 6");
        Probe.formats("0.0,0% /0", "ill 7");
        Probe.formats("0.0/ 0", "ill 3");
        Probe.formats("0.0/0", "ill 1");
        Probe.formats("0,0/8", "ill 1");
        Probe.formats("0E+0/", "ill 4");
    }

    private static void fifth() {
        Probe.says("of a fifth section: its ;");
        Probe.formats("0;0;0;@;", "ill 7");
        Probe.formats("0;0;0;@;;;;", "ill 7");
        Probe.formats("0;0;0;;0", "ill 6");
        Probe.formats("0;0;0;\";\";0", "ill 9");
        Probe.formats(";;;;x", "ill 3");
        Probe.formats(";;x;;x", "ill 2");
        Probe.formats(" ".repeat(251) + ";;;;", "ill 254");
    }

    private static void fourthsFirst() {
        Probe.says("a fourth that isn't TEXT or PLAIN: its first item");
        Probe.formats("0;0;0;0", "ill 6");
        Probe.formats("0;0;0;-0", "ill 6");
        Probe.formats("0;0;0;\"x\"-0", "ill 7");
        Probe.formats("0;0;0;--General", "ill 6");
        Probe.formats("0;0;0; \"x\"d", "ill 6");
        Probe.formats("0;0;0;-0;0", "ill 6");
        Probe.formats("0;0;0;-0x", "ill 6");
        Probe.formats("0;0;0;-x@", "ill 7");
        Probe.formats("0;0;x;0", "ill 4");
    }
}
