import java.math.BigDecimal;
import java.math.BigInteger;
import java.math.RoundingMode;
import java.time.LocalDate;
import java.time.format.TextStyle;
import java.util.ArrayList;
import java.util.Arrays;
import java.util.Collections;
import java.util.List;
import java.util.Locale;
import java.util.Random;
import java.util.regex.Matcher;
import java.util.regex.Pattern;

/**
 * The document's promises 6 to 10 told a second time, with BigDecimal, regular expressions and the
 * library's calendar; many formats and values (always the same ones) are asked of both.
 */
public final class OracleTest {
    /** An item: its kind is q (literal), or what it is written as; ! is none. */
    private static final class Item {
        final String kind;
        final String body;
        final int place;

        Item(String kind, String body, int place) {
            this.kind = kind;
            this.body = body;
            this.place = place;
        }

        boolean is(String what) {
            return kind.equals(what);
        }
    }

    private static final Pattern PARTS = Pattern.compile("(?s)\"(?<quoted>[^\"]*)\"|\\\\(?<escaped>.)|(?<blank>_.)"
            + "|(?<elapsed>\\[(?i:h|hh|m|mm|s|ss)\\])"
            + "|\\[(?<condition>(?:<=|<>|<|=|>=|>)-?[0-9]{1,9}(?:\\.[0-9]{1,9})?)\\]"
            + "|(?<wrong>\\[[^\\]]*\\])|(?<general>(?i:general))|(?<halves>(?i:am/pm|a/p))"
            + "|(?<exponent>[eE][+-])|(?<letters>(?i:y+|m+|d+|h+|s+))|(?<digit>[0#?])"
            + "|(?<=/)(?<divisor>[1-9][0-9]{0,2})|(?<sign>[.,%/@])|(?<break>;)"
            + "|(?<itself>[!$&'()*+\\-:<=>^{|}~ \\x7f-\\xff])|(?<none>.)");

    private static List<List<Item>> read(String text) {
        List<List<Item>> sections = new ArrayList<>();
        List<Item> now = new ArrayList<>();
        sections.add(now);
        Matcher m = PARTS.matcher(text);
        int from = 0;
        while (from < text.length() && m.find(from)) {
            int at = m.start();
            from = m.end();
            String all = m.group();
            if (m.group("quoted") != null) {
                for (int k = 0; k < all.length() - 2; k++) {
                    now.add(new Item("q", "" + all.charAt(k + 1), at + 1 + k));
                }
            } else if (m.group("escaped") != null) {
                now.add(new Item("q", all.substring(1), at));
            } else if (m.group("blank") != null) {
                now.add(new Item("q", " ", at));
            } else if (m.group("elapsed") != null) {
                now.add(new Item("[", all.substring(1, all.length() - 1).toLowerCase(), at));
            } else if (m.group("condition") != null) {
                now.add(new Item("if", m.group("condition"), at));
            } else if (m.group("general") != null) {
                now.add(new Item("G", all, at));
            } else if (m.group("halves") != null) {
                now.add(new Item("A", all, at));
            } else if (m.group("exponent") != null) {
                now.add(new Item("E", all.substring(1), at));
            } else if (m.group("letters") != null) {
                String most = all.toLowerCase().replaceAll("y{1,4}|m{1,5}|d{1,4}|h{1,2}|s{1,2}", "x");
                now.add(new Item(most.equals("x") ? "L" : "!", all.toLowerCase(), at));
            } else if (m.group("digit") != null) {
                now.add(new Item("0", all, at));
            } else if (m.group("divisor") != null) {
                boolean behind = !now.isEmpty() && now.get(now.size() - 1).is("/");
                now.add(new Item(behind ? "D" : "!", behind ? all : all.substring(0, 1), at));
                from = behind ? from : at + 1;
            } else if (m.group("sign") != null) {
                now.add(new Item(all, all, at));
            } else if (m.group("itself") != null) {
                now.add(new Item("q", all, at));
            } else if (m.group("break") != null) {
                if (sections.size() == 4) {
                    sections.add(new ArrayList<>(List.of(new Item("!", ";", at))));
                    return sections;
                }
                now = new ArrayList<>();
                sections.add(now);
            } else {
                now.add(new Item("!", all, at));
            }
        }
        return sections;
    }

    private static String kinds(List<Item> section) {
        StringBuilder row = new StringBuilder();
        for (Item i : section) {
            row.append(i.is("if") ? 'c' : i.kind.charAt(0));
        }
        return row.toString();
    }

    private static String sort(List<Item> section) {
        String kinds = kinds(section);
        if (kinds.matches(".*[L\\[A].*")) {
            return "DATE";
        }
        if (kinds.contains("@")) {
            return "TEXT";
        }
        if (kinds.contains("G")) {
            return "GENERAL";
        }
        if (!kinds.contains("0")) {
            return "PLAIN";
        }
        return kinds.matches("[^/]*0/[0D].*") ? "FRACTION" : "NUMBER";
    }

    /** Where a format is ill, -1 if nowhere. */
    private static int ill(List<List<Item>> sections) {
        for (int s = 0; s < sections.size(); s++) {
            List<Item> section = sections.get(s);
            String sort = sort(section);
            boolean wrongFourth = s == 3 && !sort.equals("TEXT") && !sort.equals("PLAIN");
            for (int k = 0; k < section.size(); k++) {
                Item i = section.get(k);
                if (i.is("!") || s == 4 || wrongFourth || i.is("if") && (k > 0 || s > 1) || !fits(section, sort, k)) {
                    return i.place;
                }
            }
        }
        return -1;
    }

    private static boolean fits(List<Item> section, String sort, int k) {
        String kinds = kinds(section);
        String before = kinds.substring(0, k);
        String from = kinds.substring(k);
        char kind = kinds.charAt(k);
        switch (sort) {
            case "DATE":
                return kind == '0' ? tenth(section, k) > 0 : "%E@GD".indexOf(kind) < 0;
            case "NUMBER":
                if (before.contains("E")) {
                    return before.matches(".*E0{0,2}") && kind == '0';
                }
                if (kind == 'E') {
                    return before.endsWith("0") && from.startsWith("E0");
                }
                return kind == '.' ? !before.contains(".") : "/D".indexOf(kind) < 0;
            case "FRACTION":
                if (kind == '/') {
                    return !before.contains("/");
                }
                if (kind == 'D') {
                    return before.matches("[^/]*/");
                }
                if (kind == '0') {
                    return !before.contains("/") || before.matches("[^/]*/0{0,2}");
                }
                return ".,E%".indexOf(kind) < 0;
            default:
                return kind == 'G' ? !before.contains("G") : "0ED".indexOf(kind) < 0;
        }
    }

    /** Which of the tenths' zeros an item is (1 .. 3), 0 if it is none. */
    private static int tenth(List<Item> section, int k) {
        StringBuilder row = new StringBuilder();
        for (int j = Math.max(0, k - 4); j <= k; j++) {
            Item i = section.get(j);
            boolean seconds = (i.is("L") || i.is("[")) && i.body.startsWith("s");
            row.append(seconds ? 's' : i.is(".") ? '.' : i.body.equals("0") && i.is("0") ? '0' : 'x');
        }
        Matcher m = Pattern.compile("s\\.(0{1,3})$").matcher(row);
        return m.find() ? m.group(1).length() : 0;
    }

    // ---- showing

    private static String show(List<List<Item>> sections, double v) {
        int n = Math.min(sections.size(), 3);
        int taken = -1;
        boolean conditions = false;
        for (int s = 0; s < Math.min(n, 2); s++) {
            Item first = sections.get(s).isEmpty() ? null : sections.get(s).get(0);
            conditions |= first != null && first.is("if");
        }
        if (holds(sections.get(0), v, n == 1 || (n == 2 ? v >= 0 : v > 0))) {
            taken = 0;
        } else if (n > 1 && holds(sections.get(1), v, n == 2 || v < 0)) {
            taken = 1;
        } else if (n == 3) {
            taken = 2;
        }
        String minus = v < 0 ? "-" : "";
        double shown = Math.abs(v);
        if (taken < 0) {
            return minus + general(shown);
        }
        List<Item> section = sections.get(taken);
        String sort = sort(section);
        if (sort.equals("FRACTION") && shown >= 1E9) {
            return minus + general(shown);
        }
        if (taken == 1 && !conditions) {
            minus = "";
        }
        switch (sort) {
            case "DATE":
                return date(section, v);
            case "NUMBER":
                return number(section, shown, minus);
            case "FRACTION":
                return fraction(section, shown, minus);
            default:
                StringBuilder row = new StringBuilder(sort.equals("PLAIN") ? "" : minus);
                for (Item i : section) {
                    row.append(i.is("if") ? "" : i.is("@") || i.is("G") ? general(shown) : i.body);
                }
                return row.toString();
        }
    }

    private static boolean holds(List<Item> section, double v, boolean otherwise) {
        if (section.isEmpty() || !section.get(0).is("if")) {
            return otherwise;
        }
        String body = section.get(0).body;
        String relation = body.replaceAll("[-0-9.]", "");
        double limit = Double.parseDouble(body.substring(relation.length()));
        switch (relation) {
            case "<":
                return v < limit;
            case "<=":
                return v <= limit;
            case "=":
                return v == limit;
            case "<>":
                return v != limit;
            case ">=":
                return v >= limit;
            default:
                return v > limit;
        }
    }

    private static String general(double shown) {
        if (shown == 0) {
            return "0";
        }
        BigDecimal x = new BigDecimal(shown);
        if (shown < 1E11 && shown >= 1E-5) {
            for (int decimals = 12; decimals >= 0; decimals--) {
                String row = x.setScale(decimals, RoundingMode.HALF_UP).toPlainString();
                if (row.length() <= 11) {
                    return row.contains(".") ? row.replaceAll("\\.?0+$", "") : row;
                }
            }
        }
        BigDecimal six = x.round(new java.math.MathContext(6, RoundingMode.HALF_UP));
        int power = six.precision() - six.scale() - 1;
        String digits = six.unscaledValue().toString().replaceAll("0+$", "");
        return digits.charAt(0) + (digits.length() > 1 ? "." + digits.substring(1) : "") + "E"
                + (power < 0 ? "-" : "+") + (Math.abs(power) < 10 ? "0" : "") + Math.abs(power);
    }

    /** What each digit item of a row before a point shows. */
    private static List<String> before(List<String> items, String digits, boolean groups) {
        List<String> shown = new ArrayList<>();
        String left = digits;
        int places = 0;
        for (int k = items.size() - 1; k >= 0; k--) {
            StringBuilder cell = new StringBuilder();
            String taken = k == 0 ? left : left.isEmpty() ? "" : left.substring(left.length() - 1);
            left = left.substring(0, left.length() - taken.length());
            if (taken.isEmpty()) {
                boolean zero = items.subList(0, k + 1).contains("0");
                taken = zero ? "0" : items.get(k).equals("?") ? " " : "";
            }
            for (int j = taken.length() - 1; j >= 0; j--) {
                if (groups && places > 0 && places % 3 == 0) {
                    cell.append(taken.charAt(j) == ' ' ? ' ' : ',');
                }
                cell.append(taken.charAt(j));
                places++;
            }
            shown.add(cell.reverse().toString());
        }
        Collections.reverse(shown);
        return shown;
    }

    private static String digitsOf(BigInteger n) {
        return n.signum() == 0 ? "" : n.toString();
    }

    private static String number(List<Item> section, double shown, String minus) {
        String kinds = kinds(section);
        int exponent = kinds.indexOf('E');
        int end = exponent < 0 ? kinds.length() : exponent;
        int point = kinds.indexOf('.');
        int whole = point < 0 ? end : point;
        String ahead = kinds.substring(0, whole);
        Matcher commas = Pattern.compile("0(,*)[^0]*$").matcher(ahead);
        int thousands = commas.find() ? commas.group(1).length() : 0;
        boolean groups = ahead.matches(".*0.*,.*0.*");
        int percents = kinds.replaceAll("[^%]", "").length();
        BigDecimal x = new BigDecimal(shown).movePointRight(2 * percents).movePointLeft(3 * thousands);
        List<String> items = new ArrayList<>();
        List<String> behind = new ArrayList<>();
        List<String> powers = new ArrayList<>();
        for (int k = 0; k < section.size(); k++) {
            if (section.get(k).is("0")) {
                (k < whole ? items : k < end ? behind : powers).add(section.get(k).body);
            }
        }
        int power = 0;
        if (exponent >= 0 && x.signum() != 0) {
            int step = Math.max(1, items.size());
            BigDecimal y = x.stripTrailingZeros();
            power = Math.floorDiv(y.precision() - y.scale() - 1, step) * step;
            BigDecimal tried = x.scaleByPowerOfTen(-power).setScale(behind.size(), RoundingMode.HALF_UP);
            power += tried.compareTo(BigDecimal.TEN.pow(step)) >= 0 ? step : 0;
        }
        BigDecimal r = x.scaleByPowerOfTen(-power).setScale(behind.size(), RoundingMode.HALF_UP);
        String wholeDigits = digitsOf(r.toBigInteger());
        String decimals = r.toPlainString().replaceAll("^[0-9]*\\.?", "");
        int last = Math.max(behind.lastIndexOf("0") + 1, decimals.replaceAll("0+$", "").length());
        List<String> cells = before(items, wholeDigits, groups);
        for (int k = 0; k < behind.size(); k++) {
            cells.add(k < last ? "" + decimals.charAt(k) : behind.get(k).equals("?") ? " " : "");
        }
        cells.addAll(before(powers, digitsOf(BigInteger.valueOf(Math.abs(power))), false));
        StringBuilder row = new StringBuilder(r.signum() == 0 ? "" : minus);
        int next = 0;
        for (Item i : section) {
            if (i.is("0")) {
                row.append(cells.get(next++));
            } else if (i.is(".")) {
                row.append(items.isEmpty() ? wholeDigits : "").append('.');
            } else if (i.is("E")) {
                row.append('E').append(power < 0 ? "-" : i.body.equals("+") ? "+" : "");
            } else if (!i.is(",") && !i.is("if")) {
                row.append(i.body);
            }
        }
        return row.toString();
    }

    private static String fraction(List<Item> section, double shown, String minus) {
        String kinds = kinds(section);
        int slash = kinds.indexOf('/');
        int upper = slash;
        while (upper > 0 && kinds.charAt(upper - 1) == '0') {
            upper--;
        }
        boolean mixed = kinds.substring(0, upper).contains("0");
        int lower = kinds.indexOf('0', slash) < 0 ? 1 : kinds.replaceAll("[^/]*/(0*).*", "$1").length();
        int least = 1;
        int most = lower == 1 ? 9 : lower == 2 ? 99 : 999;
        if (kinds.charAt(slash + 1) == 'D') {
            most = Integer.parseInt(section.get(slash + 1).body);
            least = most;
        }
        BigDecimal x = new BigDecimal(shown);
        BigInteger whole = x.toBigInteger();
        BigDecimal part = x.subtract(new BigDecimal(whole));
        BigInteger[] best = nearest(part, least, most);
        BigInteger a = best[0];
        BigInteger b = best[1];
        if (!mixed) {
            a = a.add(b.multiply(whole));
            whole = BigInteger.ZERO;
        } else if (a.equals(b)) {
            whole = whole.add(BigInteger.ONE);
            a = BigInteger.ZERO;
        }
        List<String> wholes = new ArrayList<>();
        List<String> uppers = new ArrayList<>();
        for (int k = 0; k < slash; k++) {
            if (section.get(k).is("0")) {
                (k < upper ? wholes : uppers).add(section.get(k).body);
            }
        }
        List<String> cells = before(wholes, digitsOf(whole), false);
        cells.addAll(before(uppers, digitsOf(a), false));
        boolean blank = mixed && a.signum() == 0;
        StringBuilder row = new StringBuilder(whole.signum() + a.signum() == 0 ? "" : minus);
        int next = 0;
        int behind = 0;
        for (int k = 0; k < section.size(); k++) {
            Item i = section.get(k);
            if (i.is("q")) {
                row.append(i.body);
            } else if (i.is("if")) {
                continue;
            } else if (blank && k >= upper) {
                row.append(' ');
            } else if (k < slash) {
                row.append(cells.get(next++));
            } else if (k == slash) {
                row.append('/');
            } else if (i.is("D")) {
                row.append(b);
            } else {
                String digits = b.toString();
                row.append(behind < digits.length() ? "" + digits.charAt(behind) : i.body.equals("?") ? " " : "");
                behind++;
            }
        }
        return row.toString();
    }

    private static BigInteger[] nearest(BigDecimal part, int least, int most) {
        BigInteger best = null;
        BigInteger bestB = null;
        BigInteger bestA = null;
        // part is top / unit
        BigInteger unit = BigInteger.TEN.pow(Math.max(0, part.scale()));
        BigInteger top = part.multiply(new BigDecimal(unit)).toBigIntegerExact();
        for (int k = least; k <= most; k++) {
            BigInteger b = BigInteger.valueOf(k);
            BigInteger floor = top.multiply(b).divide(unit);
            for (BigInteger a : List.of(floor, floor.add(BigInteger.ONE))) {
                BigInteger gap = top.multiply(b).subtract(a.multiply(unit)).abs();
                if (best == null || gap.multiply(bestB).compareTo(best.multiply(b)) < 0) {
                    best = gap;
                    bestB = b;
                    bestA = a;
                }
            }
        }
        return new BigInteger[] {bestA, bestB};
    }

    private static String date(List<Item> section, double v) {
        int most = 0;
        for (int k = 0; k < section.size(); k++) {
            if (section.get(k).is("0")) {
                most = Math.max(most, tenth(section, k));
            }
        }
        BigDecimal bound = new BigDecimal(2958466);
        BigDecimal day = new BigDecimal(86400);
        BigDecimal exact = new BigDecimal(v);
        BigDecimal time = exact.multiply(day).setScale(most, RoundingMode.HALF_UP);
        if (v < 0 || exact.compareTo(bound) >= 0 || time.compareTo(bound.multiply(day)) >= 0) {
            return "########";
        }
        long all = time.toBigInteger().longValueExact();
        String thousandths = time.setScale(3).toPlainString().replaceAll(".*\\.", "");
        LocalDate date = LocalDate.of(1899, 12, 30).plusDays(all / 86400);
        int hour = (int) (all / 3600 % 24);
        boolean halves = kinds(section).contains("A");
        StringBuilder row = new StringBuilder();
        for (int k = 0; k < section.size(); k++) {
            Item i = section.get(k);
            if (i.is("L")) {
                row.append(letters(section, k, date, hour, halves, all));
            } else if (i.is("[")) {
                long n = i.body.startsWith("h") ? all / 3600 : i.body.startsWith("m") ? all / 60 : all;
                row.append(padded(n, i.body.length()));
            } else if (i.is("A")) {
                row.append((hour < 12 ? "AM" : "PM").substring(0, i.body.length() == 5 ? 2 : 1));
            } else if (i.is("0")) {
                row.append(thousandths.charAt(tenth(section, k) - 1));
            } else if (!i.is("if")) {
                row.append(i.body);
            }
        }
        return row.toString();
    }

    private static String padded(long n, int least) {
        StringBuilder row = new StringBuilder("" + n);
        while (row.length() < least) {
            row.insert(0, '0');
        }
        return row.toString();
    }

    private static String letters(List<Item> section, int k, LocalDate date, int hour, boolean halves, long all) {
        String body = section.get(k).body;
        int n = body.length();
        switch (body.charAt(0)) {
            case 'y':
                return n < 3 ? padded(date.getYear() % 100, 2) : padded(date.getYear(), 4);
            case 'd':
                return n < 3 ? padded(date.getDayOfMonth(), n)
                        : date.getDayOfWeek().getDisplayName(n == 3 ? TextStyle.SHORT : TextStyle.FULL, Locale.ENGLISH);
            case 'h':
                return padded(halves ? (hour % 12 == 0 ? 12 : hour % 12) : hour, n);
            case 's':
                return padded(all % 60, n);
            default:
                break;
        }
        List<String> letters = new ArrayList<>();
        int at = 0;
        for (int j = 0; j < section.size(); j++) {
            if (section.get(j).is("L") || section.get(j).is("[")) {
                at = j == k ? letters.size() : at;
                letters.add(section.get(j).body.substring(0, 1));
            }
        }
        boolean minutes = at > 0 && letters.get(at - 1).equals("h")
                || at + 1 < letters.size() && letters.get(at + 1).equals("s");
        if (n < 3) {
            return padded(minutes ? all / 60 % 60 : date.getMonthValue(), n);
        }
        String name = date.getMonth().getDisplayName(TextStyle.FULL, Locale.ENGLISH);
        return n == 3 ? name.substring(0, 3) : n == 4 ? name : name.substring(0, 1);
    }

    private static String showText(List<List<Item>> sections, String text) {
        int n = sections.size();
        if (n < 4 && !(n == 1 && sort(sections.get(0)).equals("TEXT"))) {
            return text;
        }
        StringBuilder row = new StringBuilder();
        for (Item i : sections.get(n - 1)) {
            row.append(i.is("if") ? "" : i.is("@") || i.is("G") ? text : i.body);
        }
        return row.toString();
    }

    private static String cut(String row) {
        return row.length() > 1024 ? row.substring(0, 1024) : row;
    }

    // ---- asking

    private static final String[] SOUP = {"0", "#", "?", "00", "##0", "#,##0", "0.00", ".", ",", "%", "/", "@",
        "E+0", "e-00", "E+", "General", "gENERAL", "AM/PM", "a/p", "y", "yy", "yyyy", "m", "mm", "mmm", "MMMM", "mmmmm",
        "d", "dd", "ddd", "dddd", "h", "hh", "s", "ss", "ss.00", "[h]", "[mm]", "[ss]", "[>5]", "[<=-2.5]", "[<>0]",
        "[red]", "\"x\"", "\"\"", "\"a;b\"", "\\d", "_x", " ", "-", "(", "x", "7", "\"", "[", "\\", ";", ";", "?/?",
        "# ??/??", "?/8", "/16", "0000", "hhh", "yyyyy", "\u00e9"};
    private static final String[] NUMBERS = {"0", "#", "?", "0", "#", "?", ".", ",", ",", "%", "\"-\"", " ", "#,##0", "00",
        "E+0", "E-##", "E+??0"};
    private static final String[] DATES = {"y", "yy", "yyy", "yyyy", "m", "mm", "mmm", "mmmm", "mmmmm", "d", "dd", "ddd",
        "dddd", "h", "hh", "m", "mm", "s", "ss", "s.0", "ss.00", "ss.000", "[h]", "[hh]", "[m]", "[mm]", "[s]", "[ss].0",
        "AM/PM", "A/P", ":", ",", "/", ".", " ", "\"of\"", "[S].000"};
    private static final String[] FRACTIONS = {"?/?", "??/??", "???/???", "# ?/?", "# ??/??", "# ???/???", "#/##",
        "0 0/0", "0/000", "0?/?0?", "#0?\" \"#?/??", "?/2", "# ?/8", "0 ??/16", "#\" and \"00/100", "?/997", "# #?/?#0\"!\"",
        "??\"\"?/?\"\"?", "# # #/#"};
    private static final String[] CONDITIONS = {"", "", "", "[>0]", "[<0]", "[>=100]", "[<>0]", "[=1.5]", "[<=-0.1]",
        "[<1000000000]", "[>0.000000001]"};

    private static final Random RANDOM = new Random(20261118);

    private static String pick(String[] row) {
        return row[RANDOM.nextInt(row.length)];
    }

    private static String soup(String[] row, int most) {
        StringBuilder text = new StringBuilder();
        int n = RANDOM.nextInt(most + 1);
        for (int k = 0; k < n; k++) {
            text.append(pick(row));
        }
        return text.toString();
    }

    private static String randomFormat() {
        switch (RANDOM.nextInt(6)) {
            case 0:
                return soup(SOUP, 8);
            case 1:
                return pick(CONDITIONS) + soup(NUMBERS, 9);
            case 2:
                return soup(DATES, 7);
            case 3:
                return pick(CONDITIONS) + pick(FRACTIONS);
            case 4:
                StringBuilder text = new StringBuilder();
                int n = 2 + RANDOM.nextInt(3);
                for (int k = 0; k < n; k++) {
                    text.append(k == 0 ? "" : ";").append(k < 2 ? pick(CONDITIONS) : "");
                    text.append(k == 3 ? pick(new String[] {"@", "\"t:\"@_x", "", "none", "\"none\"", "@ General"})
                            : pick(new String[] {"General", "0.0", "#,##0", "\"n\"", "", "@", "yyyy", "0.0E+0", "?/?", "(0)"}));
                }
                return text.toString();
            default:
                return soup(NUMBERS, 4) + "." + soup(NUMBERS, 5);
        }
    }

    private static double randomValue() {
        double sign = RANDOM.nextInt(3) == 0 ? -1 : 1;
        switch (RANDOM.nextInt(9)) {
            case 0:
                return sign * RANDOM.nextInt(12);
            case 1:
                return sign * RANDOM.nextInt(100000000) / 1000;
            case 2:
                return sign * RANDOM.nextInt(4000) / 8.0;
            case 3:
                return sign * RANDOM.nextDouble();
            case 4:
                return RANDOM.nextDouble() * 2958467;
            case 5:
                return sign * Math.pow(10, RANDOM.nextInt(26) - 13) * (1 - RANDOM.nextInt(3) * 1E-12);
            case 6:
                double any = Double.longBitsToDouble(RANDOM.nextLong());
                return Math.abs(any) < 1E300 ? any : 0;
            case 7:
                return sign * RANDOM.nextInt(10000) / (1 + RANDOM.nextInt(999));
            default:
                return sign * Math.exp(RANDOM.nextDouble() * 60 - 30);
        }
    }

    private static void ask(NumberFormats x, String format) {
        List<List<Item>> sections = read(format);
        int place = ill(sections);
        String want = place < 0 ? "" + sections.size() : "ill " + place;
        Probe.due("<" + format + ">", Probe.format(x, format), want);
        Probe.due("<" + format + "> illAt", x.illAt(), place);
        if (place >= 0) {
            return;
        }
        for (int k = 0; k < 6; k++) {
            double v = randomValue();
            x.set(v);
            Probe.due("<" + format + "> shows " + v, Probe.show(x), cut(show(sections, v)));
        }
        String text = soup(new String[] {"ab", "\u00ff", "", " ", "0", ";"}, 4);
        Probe.type(x, text);
        Probe.due("<" + format + "> shows text " + text, Probe.showText(x), cut(showText(sections, text)));
    }

    public static void main(String[] args) {
        int rounds = args.length > 0 ? Integer.parseInt(args[0]) : 40000;
        NumberFormats x = new NumberFormats();
        for (int k = 0; k < rounds; k++) {
            String format = randomFormat();
            if (format.length() <= 255) {
                if (k % 30 == 0) {
                    x = new NumberFormats();
                }
                ask(x, format);
            }
        }
        for (String format : Arrays.asList("%".repeat(254) + "0", "0" + ",".repeat(254), "0,".repeat(127) + "0",
                "#,##0" + "%".repeat(200), "0" + "%".repeat(100) + ".0" + "%".repeat(100), "@".repeat(255))) {
            for (int k = 0; k < 5; k++) {
                ask(x, format);
            }
        }
        Probe.finish();
    }
}
