/**
 * Number formats as the cells of a workbook have them: a text becomes a format, and a double or
 * a text is shown by it. README.md tells how to use it.
 */
public final class NumberFormats {
    public static final int NONE = -1;

    private static final int TAPE_SIZE = 260;
    private static final int TEXT_SIZE = 255;
    private static final int OUTPUT_SIZE = 1024;
    private static final int MOST_SECTIONS = 4;

    // What an item of a format is; BAD is a row of characters that is none. TENTHS (the point),
    // TENTH (a zero behind it) and MINUTES are what a DATE makes of others.
    private static final int BAD = 0;
    private static final int LITERAL = 1;
    private static final int CONDITION = 2;
    private static final int ELAPSED = 3;
    private static final int DIGIT = 4;
    private static final int POINT = 5;
    private static final int COMMA = 6;
    private static final int PERCENT = 7;
    private static final int SLASH = 8;
    private static final int AT = 9;
    private static final int EXPONENT = 10;
    private static final int GENERAL = 11;
    private static final int HALVES = 12;
    private static final int LETTERS = 13;
    private static final int DIVISOR = 14;
    private static final int TENTHS = 15;
    private static final int TENTH = 16;
    private static final int MINUTES = 17;

    // The sort of a section; a NUMBER with a right / is a FRACTION.
    private static final int IS_PLAIN = 0;
    private static final int IS_DATE = 1;
    private static final int IS_TEXT = 2;
    private static final int IS_GENERAL = 3;
    private static final int IS_NUMBER = 4;
    private static final int IS_FRACTION = 5;

    // What a condition lets through: a sum of these.
    private static final int LESS = 1;
    private static final int EQUAL = 2;
    private static final int MORE = 4;

    private final int[] tape = new int[TAPE_SIZE];
    private final Text text = new Text();
    private final Shower shower = new Shower();
    private Format current = new Format();
    private Format spare = new Format();
    private boolean formatted;
    private int fed;
    private int illPlace;
    private double value;

    public NumberFormats() {
        illPlace = NONE;
    }

    public boolean feed(int a, int b, int c, int d, int e) {
        if (fed + 20 > TAPE_SIZE) {
            return false;
        }
        putBytes(a);
        putBytes(b);
        putBytes(c);
        putBytes(d);
        putBytes(e);
        return true;
    }

    private void putBytes(int word) {
        for (int shift = 24; shift >= 0; shift -= 8) {
            if (fed >= 0 && fed < tape.length) {
                tape[fed] = (word >>> shift) & 255;
                fed++;
            }
        }
    }

    public boolean end(int n) {
        if (n < 0 || n > fed || n > TEXT_SIZE) {
            return false;
        }
        text.take(tape, n);
        fed = 0;
        return true;
    }

    public boolean set(double v) {
        if (v > -1E300 && v < 1E300) {
            value = v == 0 ? 0.0 : v;
            return true;
        }
        return false;
    }

    public boolean reckon(int what, double v) {
        if (what < 0 || what > 3 || v != v || (what == 3 && v == 0)) {
            return false;
        }
        boolean endless = v > 1.7976931348623157E308 || v < -1.7976931348623157E308;
        if (endless && what != 3) {
            // Zero times an endless v would be no number at all; the others are too great.
            return false;
        }
        switch (what) {
            case 0:
                return set(value + v);
            case 1:
                return set(value - v);
            case 2:
                return set(value * v);
            default:
                return set(value / v);
        }
    }

    public int format() throws IllegalArgumentException {
        Reader.read(text, spare);
        illPlace = Judge.firstIll(spare);
        if (illPlace != NONE) {
            throw new IllegalArgumentException("the text is no format");
        }
        Format read = spare;
        spare = current;
        current = read;
        formatted = true;
        return current.sections();
    }

    public int illAt() {
        return illPlace;
    }

    public int show() throws IllegalStateException {
        if (!formatted) {
            throw new IllegalStateException("there is no format");
        }
        return shower.putNumber(current, value);
    }

    public int showText() throws IllegalStateException {
        if (!formatted) {
            throw new IllegalStateException("there is no format");
        }
        return shower.putText(current, text);
    }

    public int output(int k) {
        return shower.signAt(k);
    }

    /** The bytes that were cut off the tape last. */
    private static final class Text {
        private final int[] signs = new int[TEXT_SIZE];
        private int length;

        void take(int[] bytes, int n) {
            length = 0;
            for (int k = 0; k < n && k < bytes.length && k < signs.length; k++) {
                signs[k] = bytes[k];
                length = k + 1;
            }
        }

        int length() {
            return length;
        }

        int at(int k) {
            return k >= 0 && k < length && k < signs.length ? signs[k] : NONE;
        }

        /** The character at a place, a great letter as the small one. */
        int smallAt(int k) {
            int sign = at(k);
            return sign >= 'A' && sign <= 'Z' ? sign + 32 : sign;
        }

        int find(int sign, int from) {
            for (int k = from; k < length; k++) {
                if (at(k) == sign) {
                    return k;
                }
            }
            return NONE;
        }

        boolean hasWord(String small, int from) {
            for (int k = 0; k < small.length(); k++) {
                if (smallAt(from + k) != small.charAt(k)) {
                    return false;
                }
            }
            return true;
        }

        boolean isDigit(int k) {
            return at(k) >= '0' && at(k) <= '9';
        }

        /** How many digits there are from a place on, counted up to a bound. */
        int digitsFrom(int from, int most) {
            int n = 0;
            while (n < most && isDigit(from + n)) {
                n++;
            }
            return n;
        }

        int numberOf(int from, int digits) {
            int number = 0;
            for (int k = from; k < from + digits; k++) {
                number = number * 10 + (at(k) - '0');
            }
            return number;
        }
    }

    /** A format: its items from the left to the right, and where its sections begin. */
    private static final class Format {
        private final int[] kinds = new int[TEXT_SIZE];
        private final int[] signs = new int[TEXT_SIZE];
        private final int[] sizes = new int[TEXT_SIZE];
        private final int[] places = new int[TEXT_SIZE];
        private final double[] limits = new double[TEXT_SIZE];
        private final int[] starts = new int[MOST_SECTIONS];
        private final int[] sorts = new int[MOST_SECTIONS];
        private int count;
        private int sections;
        private int fifth;

        void clear() {
            count = 0;
            sections = 0;
            fifth = NONE;
            divide(NONE);
        }

        /** A section ends here and the next one begins. */
        void divide(int place) {
            if (sections < starts.length) {
                starts[sections] = count;
                sections++;
            } else if (fifth == NONE) {
                fifth = place;
            }
        }

        void add(int kind, int sign, int size, int place) {
            if (count < kinds.length) {
                kinds[count] = kind;
                signs[count] = sign;
                sizes[count] = size;
                places[count] = place;
                limits[count] = 0.0;
                count++;
            }
        }

        void addCondition(int relation, double limit, int place) {
            int i = count;
            add(CONDITION, '[', relation, place);
            if (i >= 0 && i < limits.length) {
                limits[i] = limit;
            }
        }

        int sections() {
            return sections;
        }

        /** The place of the ; that begins a fifth section, or NONE. */
        int fifthPlace() {
            return fifth;
        }

        int from(int s) {
            return s >= 0 && s < sections && s < starts.length ? starts[s] : count;
        }

        int to(int s) {
            return s >= -1 && s + 1 < sections && s + 1 < starts.length ? starts[s + 1] : count;
        }

        int sort(int s) {
            return s >= 0 && s < sorts.length ? sorts[s] : IS_PLAIN;
        }

        void setSort(int s, int sort) {
            if (s >= 0 && s < sorts.length) {
                sorts[s] = sort;
            }
        }

        int kind(int i) {
            return i >= 0 && i < count && i < kinds.length ? kinds[i] : NONE;
        }

        void setKind(int i, int kind) {
            if (i >= 0 && i < count && i < kinds.length) {
                kinds[i] = kind;
            }
        }

        int sign(int i) {
            return i >= 0 && i < count && i < signs.length ? signs[i] : NONE;
        }

        int size(int i) {
            return i >= 0 && i < count && i < sizes.length ? sizes[i] : 0;
        }

        int place(int i) {
            return i >= 0 && i < count && i < places.length ? places[i] : NONE;
        }

        double limit(int i) {
            return i >= 0 && i < count && i < limits.length ? limits[i] : 0.0;
        }

        /** The kind of an item, NONE if the section hasn't it. */
        int kindIn(int s, int i) {
            return i >= from(s) && i < to(s) ? kind(i) : NONE;
        }

        int find(int kind, int from, int to) {
            for (int i = from; i < to; i++) {
                if (kind(i) == kind) {
                    return i;
                }
            }
            return NONE;
        }

        int findIn(int s, int kind) {
            return find(kind, from(s), to(s));
        }

        int findLast(int kind, int from, int to) {
            for (int i = to - 1; i >= from; i--) {
                if (kind(i) == kind) {
                    return i;
                }
            }
            return NONE;
        }

        int tally(int kind, int from, int to) {
            int n = 0;
            for (int i = from; i < to; i++) {
                if (kind(i) == kind) {
                    n++;
                }
            }
            return n;
        }

        boolean hasCondition(int s) {
            return from(s) < to(s) && kind(from(s)) == CONDITION;
        }

        /** How many items of a kind stand from an item on with nothing between. */
        int rowFrom(int kind, int i, int to) {
            int n = 0;
            while (i + n < to && kind(i + n) == kind) {
                n++;
            }
            return n;
        }
    }

    /** Cuts a text into the items of a format. */
    private static final class Reader {
        private static final String THEMSELVES = "!$&'()*+-:<=>^{|}~ ";
        private static final int MOST_DIGITS = 9;

        static void read(Text text, Format f) {
            f.clear();
            int at = 0;
            for (int turn = 0; turn < TEXT_SIZE && at < text.length(); turn++) {
                if (f.fifthPlace() != NONE) {
                    return;
                }
                at = next(text, f, at);
            }
        }

        /** Takes what begins at a place; answers the place behind it. */
        private static int next(Text text, Format f, int at) {
            int sign = text.at(at);
            switch (sign) {
                case '"':
                    return quoted(text, f, at);
                case '\\':
                case '_':
                    return escaped(text, f, at);
                case '[':
                    return bracket(text, f, at);
                case ';':
                    f.divide(at);
                    return at + 1;
                default:
                    break;
            }
            int small = text.smallAt(at);
            if (small >= 'a' && small <= 'z') {
                return word(text, f, at);
            }
            if (sign >= '1' && sign <= '9') {
                return divisor(text, f, at);
            }
            f.add(kindOf(sign), sign, 1, at);
            return at + 1;
        }

        private static int kindOf(int sign) {
            switch (sign) {
                case '0':
                case '#':
                case '?':
                    return DIGIT;
                case '.':
                    return POINT;
                case ',':
                    return COMMA;
                case '%':
                    return PERCENT;
                case '/':
                    return SLASH;
                case '@':
                    return AT;
                default:
                    return sign > 126 || THEMSELVES.indexOf((char) sign) >= 0 ? LITERAL : BAD;
            }
        }

        private static int bad(Text text, Format f, int at, int behind) {
            f.add(BAD, text.at(at), 0, at);
            return behind;
        }

        private static int quoted(Text text, Format f, int at) {
            int close = text.find('"', at + 1);
            if (close == NONE) {
                return bad(text, f, at, at + 1);
            }
            for (int k = at + 1; k < close; k++) {
                f.add(LITERAL, text.at(k), 1, k);
            }
            return close + 1;
        }

        private static int escaped(Text text, Format f, int at) {
            if (at + 1 >= text.length()) {
                return bad(text, f, at, at + 1);
            }
            f.add(LITERAL, text.at(at) == '_' ? ' ' : text.at(at + 1), 1, at);
            return at + 2;
        }

        private static int bracket(Text text, Format f, int at) {
            int close = text.find(']', at + 1);
            if (close == NONE) {
                return bad(text, f, at, at + 1);
            }
            if (isElapsed(text, at + 1, close)) {
                f.add(ELAPSED, text.smallAt(at + 1), close - at - 1, at);
            } else if (!readCondition(text, f, at, close)) {
                // It has its end, so it is left as a whole: nothing in it tells the sort.
                return bad(text, f, at, close + 1);
            }
            return close + 1;
        }

        private static boolean isElapsed(Text text, int from, int to) {
            int letter = text.smallAt(from);
            boolean known = letter == 'h' || letter == 'm' || letter == 's';
            boolean twice = to - from == 2 && text.smallAt(from + 1) == letter;
            return known && (to - from == 1 || twice);
        }

        /** Adds the condition between two brackets; false if there is none. */
        private static boolean readCondition(Text text, Format f, int open, int close) {
            int relation = relation(text.at(open + 1), text.at(open + 2));
            if (relation == 0) {
                return false;
            }
            boolean single = relation == LESS || relation == EQUAL || relation == MORE;
            int at = open + (single ? 2 : 3);
            boolean below = text.at(at) == '-';
            if (below) {
                at++;
            }
            int wholes = text.digitsFrom(at, MOST_DIGITS);
            int behind = at + wholes;
            int decimals = 0;
            if (text.at(behind) == '.') {
                decimals = text.digitsFrom(behind + 1, MOST_DIGITS);
                if (decimals == 0) {
                    return false;
                }
                behind += 1 + decimals;
            }
            if (wholes == 0 || behind != close) {
                return false;
            }
            int part = text.numberOf(behind - decimals, decimals);
            double limit = nearest(text.numberOf(at, wholes), part, decimals);
            f.addCondition(relation, below ? -limit : limit, open);
            return true;
        }

        private static int relation(int first, int second) {
            switch (first) {
                case '<':
                    return second == '=' ? LESS | EQUAL : second == '>' ? LESS | MORE : LESS;
                case '>':
                    return second == '=' ? MORE | EQUAL : MORE;
                case '=':
                    return EQUAL;
                default:
                    return 0;
            }
        }

        /**
         * The double nearest to whole + part / 10^decimals. Its first 54 bits are made by long
         * division, the last of them says how to round: dividing doubles would round twice. None
         * lies halfway, for with nine decimals at most it would have some 40 bits at most.
         */
        private static double nearest(int whole, int part, int decimals) {
            if (whole == 0 && part == 0) {
                return 0.0;
            }
            long unit = 1;
            for (int k = 0; k < decimals; k++) {
                unit *= 10;
            }
            long bits = whole;
            long rest = part;
            double scale = 1.0;
            for (int k = 0; k < 100 && bits < (1L << 53); k++) {
                rest *= 2;
                bits = bits * 2 + (rest >= unit ? 1 : 0);
                rest -= rest >= unit ? unit : 0;
                scale *= 0.5;
            }
            return (double) ((bits + 1) >> 1) * (scale * 2);
        }

        private static int divisor(Text text, Format f, int at) {
            int last = f.to(f.sections() - 1) - 1;
            if (f.kindIn(f.sections() - 1, last) != SLASH) {
                return bad(text, f, at, at + 1);
            }
            int digits = text.digitsFrom(at, 3);
            f.add(DIVISOR, text.at(at), text.numberOf(at, digits), at);
            return at + digits;
        }

        private static int word(Text text, Format f, int at) {
            int letter = text.smallAt(at);
            switch (letter) {
                case 'y':
                case 'm':
                case 'd':
                case 'h':
                case 's':
                    return letters(text, f, at, letter);
                default:
                    break;
            }
            if (letter == 'e' && (text.at(at + 1) == '+' || text.at(at + 1) == '-')) {
                f.add(EXPONENT, text.at(at + 1), 1, at);
                return at + 2;
            }
            if (text.hasWord("general", at)) {
                f.add(GENERAL, 'G', 1, at);
                return at + 7;
            }
            if (text.hasWord("am/pm", at)) {
                f.add(HALVES, 'A', 2, at);
                return at + 5;
            }
            if (text.hasWord("a/p", at)) {
                f.add(HALVES, 'A', 1, at);
                return at + 3;
            }
            return bad(text, f, at, at + 1);
        }

        private static int letters(Text text, Format f, int at, int letter) {
            int n = 0;
            while (n < TEXT_SIZE && text.smallAt(at + n) == letter) {
                n++;
            }
            if (n > mostOf(letter)) {
                return bad(text, f, at, at + n);
            }
            f.add(LETTERS, letter, n, at);
            return at + n;
        }

        private static int mostOf(int letter) {
            switch (letter) {
                case 'm':
                    return 5;
                case 'h':
                case 's':
                    return 2;
                default:
                    return 4;
            }
        }
    }

    /** Tells the sorts of the sections, and where a format is ill. */
    private static final class Judge {
        static int firstIll(Format f) {
            for (int s = 0; s < f.sections(); s++) {
                f.setSort(s, sortOf(f, s));
                if (f.sort(s) == IS_DATE) {
                    markMinutes(f, s);
                    markTenths(f, s);
                }
                int ill = firstIllIn(f, s);
                if (ill != NONE) {
                    return f.place(ill);
                }
            }
            return f.fifthPlace();
        }

        private static int sortOf(Format f, int s) {
            if (f.findIn(s, LETTERS) != NONE || f.findIn(s, ELAPSED) != NONE
                    || f.findIn(s, HALVES) != NONE) {
                return IS_DATE;
            }
            if (f.findIn(s, AT) != NONE) {
                return IS_TEXT;
            }
            if (f.findIn(s, GENERAL) != NONE) {
                return IS_GENERAL;
            }
            if (f.findIn(s, DIGIT) == NONE) {
                return IS_PLAIN;
            }
            return hasRightSlash(f, s) ? IS_FRACTION : IS_NUMBER;
        }

        private static boolean hasRightSlash(Format f, int s) {
            int slash = f.findIn(s, SLASH);
            if (slash == NONE || f.kindIn(s, slash - 1) != DIGIT) {
                return false;
            }
            int behind = f.kindIn(s, slash + 1);
            return behind == DIGIT || behind == DIVISOR;
        }

        /** Tells minutes from months. */
        private static void markMinutes(Format f, int s) {
            int before = NONE;
            int open = NONE;
            for (int i = f.from(s); i < f.to(s); i++) {
                boolean letters = f.kind(i) == LETTERS;
                if (!letters && f.kind(i) != ELAPSED) {
                    continue;
                }
                int letter = f.sign(i);
                if (letter == 's') {
                    f.setKind(open, MINUTES);
                }
                open = letters && letter == 'm' && f.size(i) <= 2 ? i : NONE;
                if (before == 'h') {
                    f.setKind(open, MINUTES);
                }
                before = letter;
            }
        }

        private static void markTenths(Format f, int s) {
            for (int i = f.from(s); i < f.to(s); i++) {
                int before = f.kindIn(s, i - 1);
                boolean seconds = (before == LETTERS || before == ELAPSED) && f.sign(i - 1) == 's';
                if (f.kind(i) != POINT || !seconds) {
                    continue;
                }
                for (int k = i + 1; k <= i + 3 && isZero(f, s, k); k++) {
                    f.setKind(i, TENTHS);
                    f.setKind(k, TENTH);
                }
            }
        }

        private static boolean isZero(Format f, int s, int i) {
            return f.kindIn(s, i) == DIGIT && f.sign(i) == '0';
        }

        /** The first item of a section that is ill, or NONE. */
        private static int firstIllIn(Format f, int s) {
            int sort = f.sort(s);
            if (s == 3 && sort != IS_TEXT && sort != IS_PLAIN) {
                return f.from(s);
            }
            for (int i = f.from(s); i < f.to(s); i++) {
                if (isIll(f, s, i)) {
                    return i;
                }
            }
            return NONE;
        }

        private static boolean isIll(Format f, int s, int i) {
            int kind = f.kind(i);
            if (kind == BAD) {
                return true;
            }
            if (kind == CONDITION) {
                return s > 1 || i != f.from(s);
            }
            switch (f.sort(s)) {
                case IS_DATE:
                    return isIllInDate(kind);
                case IS_NUMBER:
                    return isIllInNumber(f, s, i);
                case IS_FRACTION:
                    return isIllInFraction(f, s, i);
                default:
                    return isIllInWords(f, s, i);
            }
        }

        private static boolean isIllInDate(int kind) {
            switch (kind) {
                case DIGIT:
                case PERCENT:
                case EXPONENT:
                case AT:
                case GENERAL:
                case DIVISOR:
                    return true;
                default:
                    return false;
            }
        }

        /** In TEXT, GENERAL and PLAIN. */
        private static boolean isIllInWords(Format f, int s, int i) {
            switch (f.kind(i)) {
                case DIGIT:
                case EXPONENT:
                case DIVISOR:
                    return true;
                case GENERAL:
                    return f.find(GENERAL, f.from(s), i) != NONE;
                default:
                    return false;
            }
        }

        private static boolean isIllInNumber(Format f, int s, int i) {
            int exponent = f.findIn(s, EXPONENT);
            if (exponent != NONE && i > exponent) {
                return f.kind(i) != DIGIT || i - exponent > 3;
            }
            switch (f.kind(i)) {
                case POINT:
                    return f.find(POINT, f.from(s), i) != NONE;
                case EXPONENT:
                    return f.kindIn(s, i - 1) != DIGIT || f.kindIn(s, i + 1) != DIGIT;
                case SLASH:
                case DIVISOR:
                    return true;
                default:
                    return false;
            }
        }

        private static boolean isIllInFraction(Format f, int s, int i) {
            int slash = f.findIn(s, SLASH);
            switch (f.kind(i)) {
                case POINT:
                case COMMA:
                case PERCENT:
                case EXPONENT:
                    return true;
                case SLASH:
                    return i != slash;
                case DIVISOR:
                    return i != slash + 1;
                case DIGIT:
                    return i > slash && !isBelowSlash(f, s, i, slash);
                default:
                    return false;
            }
        }

        /** Is it one of the one to three digit items right behind the / ? */
        private static boolean isBelowSlash(Format f, int s, int i, int slash) {
            return i - slash <= 3 && i - slash <= f.rowFrom(DIGIT, slash + 1, f.to(s));
        }
    }

    /** A double's exact value, times a whole number, as a row of decimal digits. */
    private static final class Decimal {
        private static final long LIMB = 1000000000L;

        private final long[] limbs = new long[100];
        private final int[] digits = new int[910];
        private int used;
        private int count;
        private int scale;

        /** Takes v (not below 0, below 1E300) times a factor (1 .. 999999999). */
        void load(double v, int factor) {
            double rest = v;
            int twos = 0;
            for (int k = 0; k < 1100 && rest >= 9007199254740992.0; k++) {
                rest *= 0.5;
                twos++;
            }
            for (int k = 0; k < 1100 && rest != (double) (long) rest; k++) {
                rest *= 2;
                twos--;
            }
            used = 0;
            for (long left = (long) rest; left > 0; left /= LIMB) {
                push(left % LIMB);
            }
            multiply(factor);
            // m / 2^k is m * 5^k / 10^k, so a part behind the point needs no division.
            multiplyOften(twos > 0 ? 2 : 5, twos > 0 ? twos : -twos);
            scale = twos > 0 ? 0 : -twos;
            spread();
        }

        /** Takes a whole number, not below 0. */
        void loadWhole(long number) {
            scale = 0;
            count = 0;
            for (long left = number; left > 0 && count < digits.length; left /= 10) {
                digits[count] = (int) (left % 10);
                count++;
            }
        }

        private void push(long limb) {
            if (used < limbs.length) {
                limbs[used] = limb;
                used++;
            }
        }

        private void multiplyOften(int by, int times) {
            int left = times;
            for (; left >= 12; left -= 12) {
                multiply(by == 2 ? 4096 : 244140625);
            }
            for (; left > 0; left--) {
                multiply(by);
            }
        }

        private void multiply(int by) {
            long carry = 0;
            for (int k = 0; k < used && k < limbs.length; k++) {
                long product = limbs[k] * by + carry;
                limbs[k] = product % LIMB;
                carry = product / LIMB;
            }
            if (carry > 0) {
                push(carry);
            }
        }

        private void spread() {
            count = 0;
            for (int k = 0; k < used && k < limbs.length; k++) {
                long limb = limbs[k];
                for (int j = 0; j < 9 && count < digits.length; j++) {
                    digits[count] = (int) (limb % 10);
                    limb /= 10;
                    count++;
                }
            }
            trim();
        }

        private void trim() {
            while (count > 0 && count <= digits.length && digits[count - 1] == 0) {
                count--;
            }
        }

        boolean isZero() {
            return count == 0;
        }

        /** Makes it 10^tens times as great. */
        void shift(int tens) {
            scale -= tens;
        }

        /** The digit that counts 10^position. */
        int digit(int position) {
            int k = position + scale;
            return k >= 0 && k < count && k < digits.length ? digits[k] : 0;
        }

        /** The position of the first digit that isn't 0. */
        int top() {
            return count - 1 - scale;
        }

        /** How many digits there are before the point, none for 0. */
        int wholeDigits() {
            return count > 0 && count > scale ? count - scale : 0;
        }

        /** Rounds to so many decimals, a half up; to tens, hundreds .. if they are below 0. */
        void round(int decimals) {
            int cut = scale - decimals;
            if (cut <= 0) {
                return;
            }
            if (cut > count || cut > digits.length) {
                count = 0;
                return;
            }
            boolean up = digits[cut - 1] >= 5;
            for (int k = 0; k < cut; k++) {
                digits[k] = 0;
            }
            if (up) {
                addOneAt(cut);
            }
            trim();
        }

        private void addOneAt(int from) {
            int k = from;
            while (k < count && k < digits.length && digits[k] == 9) {
                digits[k] = 0;
                k++;
            }
            if (k >= digits.length) {
                return;
            }
            if (k < count) {
                digits[k]++;
            } else {
                digits[k] = 1;
                count = k + 1;
            }
        }

        /** Its whole part, which must be below 10^18. */
        long whole() {
            long number = 0;
            for (int position = wholeDigits() - 1; position >= 0; position--) {
                number = number * 10 + digit(position);
            }
            return number;
        }
    }

    /** Writes the output, and puts the digits of a number to the digit items before a point. */
    private static final class Pen {
        private final Decimal decimal = new Decimal();
        private final int[] row = new int[OUTPUT_SIZE];
        private final int[] turned = new int[20];
        private int length;
        private int slots;
        private int slotsPut;
        private int hidden;
        private boolean zeroSeen;
        private boolean groups;

        Decimal decimal() {
            return decimal;
        }

        void clear() {
            length = 0;
        }

        int length() {
            return length;
        }

        int at(int k) {
            return k >= 0 && k < length && k < row.length ? row[k] : NONE;
        }

        void add(int sign) {
            if (length < row.length) {
                row[length] = sign;
                length++;
            }
        }

        void addWord(String word) {
            for (int k = 0; k < word.length(); k++) {
                add(word.charAt(k));
            }
        }

        void addText(Text text) {
            for (int k = 0; k < text.length(); k++) {
                add(text.at(k));
            }
        }

        /** A number in at least so many digits. */
        void addNumber(long number, int least) {
            int n = 0;
            long left = number;
            while (n < turned.length && (left > 0 || n < least)) {
                turned[n] = (int) (left % 10);
                left /= 10;
                n++;
            }
            for (int k = n - 1; k >= 0; k--) {
                add('0' + turned[k]);
            }
        }

        /** Names the items that the decimal's digits before the point will be put to. */
        void startSlots(Format f, int from, int to, boolean grouped) {
            slots = f.tally(DIGIT, from, to);
            slotsPut = 0;
            zeroSeen = false;
            groups = grouped;
            hidden = countHidden(f, from, to);
        }

        /** How many # will show nothing: they are no digits to the groups. */
        private int countHidden(Format f, int from, int to) {
            int n = 0;
            int position = slots;
            for (int i = from; i < to; i++) {
                if (f.kind(i) != DIGIT) {
                    continue;
                }
                position--;
                if (f.sign(i) == '0' || position < decimal.wholeDigits()) {
                    return n;
                }
                if (f.sign(i) == '#') {
                    n++;
                }
            }
            return n;
        }

        /** Shows the next one of the items named. */
        void putSlot(int item) {
            int position = slots - 1 - slotsPut;
            if (slotsPut == 0) {
                putDigits(position + 1);
            }
            slotsPut++;
            zeroSeen = zeroSeen || item == '0';
            if (zeroSeen || position < decimal.wholeDigits()) {
                putCell('0' + decimal.digit(position), position);
            } else if (item == '?') {
                putCell(' ', position);
            } else {
                hidden--;
            }
        }

        /** Shows all digits before the point that count 10^position or more. */
        void putDigits(int position) {
            for (int k = decimal.wholeDigits() - 1; k >= position; k--) {
                putCell('0' + decimal.digit(k), k);
            }
        }

        private void putCell(int sign, int position) {
            add(sign);
            int right = position - hidden;
            if (groups && right > 0 && right % 3 == 0) {
                add(sign == ' ' ? ' ' : ',');
            }
        }
    }

    /** Shows a number as GENERAL has it. */
    private static final class GeneralView {
        private static final int MOST_SIGNS = 11;

        /** Shows a number that isn't below 0. */
        static void put(Pen pen, double shown) {
            Decimal d = pen.decimal();
            d.load(shown, 1);
            if (d.isZero()) {
                pen.add('0');
                return;
            }
            if (shown < 1E11 && shown >= 1E-5) {
                int decimals = Math.max(0, MOST_SIGNS - 1 - Math.max(1, d.wholeDigits()));
                d.round(decimals);
                if (d.wholeDigits() <= MOST_SIGNS) {
                    putFixed(pen, d, decimals);
                    return;
                }
            }
            d.round(5 - d.top());
            putPowered(pen, d);
        }

        private static void putFixed(Pen pen, Decimal d, int decimals) {
            for (int k = Math.max(1, d.wholeDigits()) - 1; k >= 0; k--) {
                pen.add('0' + d.digit(k));
            }
            putTidy(pen, d, 0, decimals);
        }

        private static void putPowered(Pen pen, Decimal d) {
            int power = d.top();
            pen.add('0' + d.digit(power));
            putTidy(pen, d, power, 5);
            pen.add('E');
            pen.add(power < 0 ? '-' : '+');
            pen.addNumber(Math.abs(power), 2);
        }

        /** A point and the digits behind a position, without zeros at the end. */
        private static void putTidy(Pen pen, Decimal d, int position, int most) {
            int n = most;
            while (n > 0 && d.digit(position - n) == 0) {
                n--;
            }
            if (n > 0) {
                pen.add('.');
            }
            for (int k = 1; k <= n; k++) {
                pen.add('0' + d.digit(position - k));
            }
        }
    }

    /** Shows a number by a NUMBER section. */
    private static final class NumberView {
        private int point;
        private int exponent;
        private int wholeEnd;
        private int wholeItems;
        private int decimals;
        private int decimalsPut;
        private int lastDecimal;
        private int power;

        void put(Pen pen, Format f, int s, double shown, boolean minus) {
            survey(f, s);
            Decimal d = pen.decimal();
            d.load(shown, 1);
            d.shift(2 * f.tally(PERCENT, f.from(s), f.to(s)) - 3 * thousands(f, s));
            power = 0;
            if (exponent == NONE) {
                d.round(decimals);
            } else {
                takePower(d);
            }
            lastDecimal = findLastDecimal(f, s, d);
            if (minus && !d.isZero()) {
                pen.add('-');
            }
            pen.startSlots(f, f.from(s), wholeEnd, hasGroups(f, s));
            for (int i = f.from(s); i < f.to(s); i++) {
                putItem(pen, f, s, i);
            }
        }

        private void survey(Format f, int s) {
            point = f.findIn(s, POINT);
            exponent = f.findIn(s, EXPONENT);
            int decimalsEnd = exponent == NONE ? f.to(s) : exponent;
            wholeEnd = point == NONE ? decimalsEnd : point;
            wholeItems = f.tally(DIGIT, f.from(s), wholeEnd);
            decimals = f.tally(DIGIT, wholeEnd, decimalsEnd);
            decimalsPut = 0;
        }

        /** How many commas there are right behind the last digit item before the point. */
        private int thousands(Format f, int s) {
            int last = f.findLast(DIGIT, f.from(s), wholeEnd);
            return last == NONE ? 0 : f.rowFrom(COMMA, last + 1, wholeEnd);
        }

        private boolean hasGroups(Format f, int s) {
            int first = f.find(DIGIT, f.from(s), wholeEnd);
            int last = f.findLast(DIGIT, f.from(s), wholeEnd);
            return first != NONE && f.find(COMMA, first, last) != NONE;
        }

        /** Makes the decimal what stands before the E, and rounds it. */
        private void takePower(Decimal d) {
            if (d.isZero()) {
                return;
            }
            int step = Math.max(1, wholeItems);
            power = Math.floorDiv(d.top(), step) * step;
            d.shift(-power);
            d.round(decimals);
            if (d.wholeDigits() > step) {
                power += step;
                d.shift(-step);
            }
        }

        /** Behind this decimal # and ? show no digit. */
        private int findLastDecimal(Format f, int s, Decimal d) {
            int last = 0;
            int n = 0;
            for (int i = wholeEnd; i < f.to(s) && n < decimals; i++) {
                if (f.kind(i) != DIGIT) {
                    continue;
                }
                n++;
                if (f.sign(i) == '0' || d.digit(-n) != 0) {
                    last = n;
                }
            }
            return last;
        }

        private void putItem(Pen pen, Format f, int s, int i) {
            int sign = f.sign(i);
            switch (f.kind(i)) {
                case DIGIT:
                    if (i < wholeEnd || (exponent != NONE && i > exponent)) {
                        pen.putSlot(sign);
                    } else {
                        putDecimal(pen, sign);
                    }
                    break;
                case POINT:
                    if (wholeItems == 0) {
                        pen.putDigits(0);
                    }
                    pen.add('.');
                    break;
                case EXPONENT:
                    startPower(pen, f, s, sign);
                    break;
                case COMMA:
                case CONDITION:
                    break;
                default:
                    pen.add(sign);
                    break;
            }
        }

        private void putDecimal(Pen pen, int item) {
            decimalsPut++;
            if (decimalsPut <= lastDecimal) {
                pen.add('0' + pen.decimal().digit(-decimalsPut));
            } else if (item == '?') {
                pen.add(' ');
            }
        }

        /** From here on the pen's decimal is the power. */
        private void startPower(Pen pen, Format f, int s, int sign) {
            pen.add('E');
            if (power < 0) {
                pen.add('-');
            } else if (sign == '+') {
                pen.add('+');
            }
            pen.decimal().loadWhole(Math.abs(power));
            pen.startSlots(f, exponent + 1, f.to(s), false);
        }
    }

    /** Shows a number by a FRACTION section. */
    private static final class FractionView {
        private static final long LOW = 0xFFFFFFFFL;
        private static final long ALL = 0x7FFFFFFFFFFFFFFFL;
        private static final long HALF = 1L << 62;

        private int slash;
        private int upperStart;
        private long whole;
        private long upper;
        private int lower;
        private boolean blank;

        /** Shows a number that is below 1E9 in size. */
        void put(Pen pen, Format f, int s, double shown, boolean minus) {
            survey(f, s);
            boolean mixed = f.find(DIGIT, f.from(s), upperStart) != NONE;
            seek(f, s, shown);
            settle(mixed);
            if (minus && (whole > 0 || upper > 0)) {
                pen.add('-');
            }
            blank = mixed && upper == 0;
            pen.decimal().loadWhole(whole);
            pen.startSlots(f, f.from(s), upperStart, false);
            for (int i = f.from(s); i < f.to(s); i++) {
                putItem(pen, f, i);
            }
        }

        private void survey(Format f, int s) {
            slash = f.findIn(s, SLASH);
            upperStart = slash;
            while (upperStart > f.from(s) && f.kind(upperStart - 1) == DIGIT) {
                upperStart--;
            }
        }

        private void seek(Format f, int s, double shown) {
            whole = (long) shown;
            double part = shown - (double) whole;
            if (f.kind(slash + 1) == DIVISOR) {
                nearest(part, f.size(slash + 1), f.size(slash + 1));
                return;
            }
            int items = f.rowFrom(DIGIT, slash + 1, f.to(s));
            nearest(part, 1, items == 1 ? 9 : items == 2 ? 99 : 999);
        }

        private void settle(boolean mixed) {
            if (!mixed) {
                upper += whole * lower;
                whole = 0;
            } else if (upper == lower) {
                whole++;
                upper = 0;
            }
        }

        /** Finds the upper / lower nearest to a part below 1, the lower one from least to most. */
        private void nearest(double part, int least, int most) {
            upper = 0;
            lower = least;
            if (part < 1.0 / 2048) {
                // Nearer to 0 than half of 1 / 999; all other parts are whole 1 / 2^63s.
                return;
            }
            long units = (long) (part * 9223372036854775808.0);
            long bestGap = HALF;
            for (int below = least; below <= most; below++) {
                long above = ((units >>> 32) * below + (((units & LOW) * below) >>> 32)) >>> 31;
                long gap = (units * below) & ALL;
                if (gap > HALF) {
                    above++;
                    gap = ALL - gap + 1;
                }
                if (below == least || isNearer(gap, below, bestGap, lower)) {
                    upper = above;
                    lower = below;
                    bestGap = gap;
                }
            }
        }

        /** Is gap / below less than bestGap / best? Products of 72 bits are compared in halves. */
        private static boolean isNearer(long gap, int below, long bestGap, int best) {
            long low = (gap & LOW) * best;
            long bestLow = (bestGap & LOW) * below;
            long high = (gap >>> 32) * best + (low >>> 32);
            long bestHigh = (bestGap >>> 32) * below + (bestLow >>> 32);
            return high != bestHigh ? high < bestHigh : (low & LOW) < (bestLow & LOW);
        }

        private void putItem(Pen pen, Format f, int i) {
            int kind = f.kind(i);
            if (i == upperStart) {
                pen.decimal().loadWhole(upper);
                pen.startSlots(f, upperStart, slash, false);
            }
            if (kind == LITERAL) {
                pen.add(f.sign(i));
            } else if (blank && i >= upperStart && kind != CONDITION) {
                pen.add(' ');
            } else if (kind == SLASH) {
                pen.add('/');
            } else if (kind == DIVISOR) {
                pen.addNumber(lower, 1);
            } else if (kind == DIGIT && i < slash) {
                pen.putSlot(f.sign(i));
            } else if (kind == DIGIT) {
                putLower(pen, f.sign(i), i - slash - 1);
            }
        }

        /** The lower digits stand from the left, unlike all others. */
        private void putLower(Pen pen, int item, int k) {
            if (k == 0) {
                pen.addNumber(lower, 1);
            }
            int digits = lower < 10 ? 1 : lower < 100 ? 2 : 3;
            if (k >= digits && item == '?') {
                pen.add(' ');
            }
        }
    }

    /** Shows a number of days by a DATE section. */
    private static final class DateView {
        private static final int DAYS_BOUND = 2958466;
        private static final int DAY_SECONDS = 86400;
        /** From March 1 of the year 0 to December 30, 1899. */
        private static final int DAYS_BEFORE = 693899;
        private static final String MONTHS =
                "January February March April May June July August September October November December ";
        private static final String WEEKDAYS =
                "Sunday Monday Tuesday Wednesday Thursday Friday Saturday ";

        private long seconds;
        private int thousandths;
        private int tenthsPut;
        private int year;
        private int month;
        private int day;
        private int weekday;
        private boolean halves;

        void put(Pen pen, Format f, int s, double v) {
            if (!settle(pen.decimal(), v, mostTenths(f, s))) {
                pen.addWord("########");
                return;
            }
            halves = f.findIn(s, HALVES) != NONE;
            tenthsPut = 0;
            for (int i = f.from(s); i < f.to(s); i++) {
                putItem(pen, f, i);
            }
        }

        private static int mostTenths(Format f, int s) {
            int most = 0;
            for (int i = f.from(s); i < f.to(s); i++) {
                if (f.kind(i) == TENTHS) {
                    most = Math.max(most, f.rowFrom(TENTH, i + 1, f.to(s)));
                }
            }
            return most;
        }

        /** Finds day and time, rounded; false if there are none. */
        private boolean settle(Decimal d, double v, int tenths) {
            if (v < 0 || v >= DAYS_BOUND) {
                return false;
            }
            int parts = 1;
            int partsLeft = 1000;
            for (int k = 0; k < tenths; k++) {
                parts *= 10;
                partsLeft /= 10;
            }
            d.load(v, DAY_SECONDS * parts);
            d.round(0);
            long all = d.whole() * partsLeft;
            seconds = all / 1000;
            thousandths = (int) (all % 1000);
            int days = (int) (seconds / DAY_SECONDS);
            findDay(days);
            return days < DAYS_BOUND;
        }

        /** Years are counted from March on, so that a leap day ends one. */
        private void findDay(int days) {
            int n = days + DAYS_BEFORE;
            int ages = n / 146097;
            int inAge = n % 146097;
            int years = (inAge - inAge / 1460 + inAge / 36524 - inAge / 146096) / 365;
            int inYear = inAge - (365 * years + years / 4 - years / 100);
            int months = (5 * inYear + 2) / 153;
            day = inYear - (153 * months + 2) / 5 + 1;
            month = months < 10 ? months + 3 : months - 9;
            year = ages * 400 + years + (month <= 2 ? 1 : 0);
            weekday = (days + 6) % 7;
        }

        private void putItem(Pen pen, Format f, int i) {
            switch (f.kind(i)) {
                case LETTERS:
                    putLetters(pen, f.sign(i), f.size(i));
                    break;
                case MINUTES:
                    pen.addNumber(seconds / 60 % 60, f.size(i));
                    break;
                case ELAPSED:
                    putElapsed(pen, f.sign(i), f.size(i));
                    break;
                case HALVES:
                    pen.add(hour() < 12 ? 'A' : 'P');
                    if (f.size(i) == 2) {
                        pen.add('M');
                    }
                    break;
                case TENTHS:
                    tenthsPut = 0;
                    pen.add('.');
                    break;
                case TENTH:
                    putTenth(pen);
                    break;
                case CONDITION:
                    break;
                default:
                    pen.add(f.sign(i));
                    break;
            }
        }

        private int hour() {
            return (int) (seconds % DAY_SECONDS / 3600);
        }

        private void putTenth(Pen pen) {
            tenthsPut++;
            int left = tenthsPut == 1 ? thousandths / 100
                    : tenthsPut == 2 ? thousandths / 10 : thousandths;
            pen.add('0' + left % 10);
        }

        private void putElapsed(Pen pen, int letter, int least) {
            pen.addNumber(letter == 'h' ? seconds / 3600
                    : letter == 'm' ? seconds / 60 : seconds, least);
        }

        private void putLetters(Pen pen, int letter, int n) {
            switch (letter) {
                case 'y':
                    pen.addNumber(n > 2 ? year : year % 100, n > 2 ? 4 : 2);
                    break;
                case 'm':
                    putMonth(pen, n);
                    break;
                case 'd':
                    putDay(pen, n);
                    break;
                case 'h':
                    pen.addNumber(halves ? (hour() + 11) % 12 + 1 : hour(), n);
                    break;
                default:
                    pen.addNumber(seconds % 60, n);
                    break;
            }
        }

        private void putMonth(Pen pen, int n) {
            if (n <= 2) {
                pen.addNumber(month, n);
            } else {
                putName(pen, MONTHS, month - 1, n == 3 ? 3 : n == 5 ? 1 : MONTHS.length());
            }
        }

        private void putDay(Pen pen, int n) {
            if (n <= 2) {
                pen.addNumber(day, n);
            } else {
                putName(pen, WEEKDAYS, weekday, n == 3 ? 3 : WEEKDAYS.length());
            }
        }

        /** Shows the first letters of a name; a blank ends each one. */
        private static void putName(Pen pen, String names, int which, int most) {
            int before = 0;
            int put = 0;
            for (int k = 0; k < names.length() && before <= which; k++) {
                char letter = names.charAt(k);
                if (letter == ' ') {
                    before++;
                } else if (before == which && put < most) {
                    pen.add(letter);
                    put++;
                }
            }
        }
    }

    /** Takes the section that is due, and shows by it. */
    private static final class Shower {
        private final Pen pen = new Pen();
        private final NumberView numberView = new NumberView();
        private final FractionView fractionView = new FractionView();
        private final DateView dateView = new DateView();

        int signAt(int k) {
            return pen.at(k);
        }

        int putNumber(Format f, double v) {
            pen.clear();
            double shown = v < 0 ? -v : v;
            int s = sectionFor(f, v);
            boolean tooGreat = f.sort(s) == IS_FRACTION && shown >= 1E9;
            if (s == NONE || tooGreat) {
                putMinus(v < 0);
                GeneralView.put(pen, shown);
                return pen.length();
            }
            boolean plainSecond = s == 1 && !f.hasCondition(0) && !f.hasCondition(1);
            boolean minus = v < 0 && !plainSecond;
            switch (f.sort(s)) {
                case IS_DATE:
                    dateView.put(pen, f, s, v);
                    break;
                case IS_NUMBER:
                    numberView.put(pen, f, s, shown, minus);
                    break;
                case IS_FRACTION:
                    fractionView.put(pen, f, s, shown, minus);
                    break;
                default:
                    putMinus(minus && f.sort(s) != IS_PLAIN);
                    putWords(f, s, shown);
                    break;
            }
            return pen.length();
        }

        private void putMinus(boolean minus) {
            if (minus) {
                pen.add('-');
            }
        }

        /** A TEXT, GENERAL or PLAIN section with a number. */
        private void putWords(Format f, int s, double shown) {
            for (int i = f.from(s); i < f.to(s); i++) {
                int kind = f.kind(i);
                if (kind == AT || kind == GENERAL) {
                    GeneralView.put(pen, shown);
                } else if (kind != CONDITION) {
                    pen.add(f.sign(i));
                }
            }
        }

        int putText(Format f, Text text) {
            pen.clear();
            boolean onlyText = f.sections() == 1 && f.sort(0) == IS_TEXT;
            if (f.sections() < MOST_SECTIONS && !onlyText) {
                pen.addText(text);
                return pen.length();
            }
            int s = f.sections() - 1;
            for (int i = f.from(s); i < f.to(s); i++) {
                int kind = f.kind(i);
                if (kind == AT || kind == GENERAL) {
                    pen.addText(text);
                } else if (kind != CONDITION) {
                    pen.add(f.sign(i));
                }
            }
            return pen.length();
        }

        /** The section that a number is shown by; NONE if GENERAL alone is taken. */
        private static int sectionFor(Format f, double v) {
            int n = Math.min(f.sections(), 3);
            int all = LESS | EQUAL | MORE;
            if (holds(f, 0, v, n == 1 ? all : n == 2 ? MORE | EQUAL : MORE)) {
                return 0;
            }
            if (n > 1 && holds(f, 1, v, n == 2 ? all : LESS)) {
                return 1;
            }
            return n == 3 ? 2 : NONE;
        }

        private static boolean holds(Format f, int s, double v, int withoutCondition) {
            int first = f.from(s);
            int relation = f.hasCondition(s) ? f.size(first) : withoutCondition;
            double limit = f.hasCondition(s) ? f.limit(first) : 0.0;
            return (relation & (v < limit ? LESS : v > limit ? MORE : EQUAL)) != 0;
        }
    }
}
