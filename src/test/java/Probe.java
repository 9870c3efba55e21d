import java.util.Objects;

/** What all tests use: objects to ask by texts, and answers compared. */
final class Probe {
    /** Asked whatever a new object is asked, so that nothing of earlier calls may show. */
    private static final NumberFormats USED = new NumberFormats();

    private static int asked = 0;
    private static int wrong = 0;
    private static int sentences = 0;
    private static String sentence = "";

    private Probe() {
    }

    /** What the document says, to be told with the wrong answers that follow. */
    static void says(String words) {
        sentences++;
        sentence = words;
    }

    static void due(String what, Object got, Object want) {
        asked++;
        if (!Objects.equals(got, want)) {
            wrong++;
            System.out.println(what + ": answered <" + got + ">, due is <" + want + ">"
                    + (sentence.isEmpty() ? "" : ", for the document says: " + sentence));
        }
    }

    static void finish() {
        System.out.println((sentences > 0 ? sentences + " sentences, " : "") + asked + " answers, " + wrong + " wrong");
        if (wrong != 0 || asked == 0) {
            System.exit(1);
        }
    }

    /** Makes a text (characters 0 to 255) the text of an object. */
    static boolean type(NumberFormats x, String text) {
        for (int at = 0; at < text.length(); at += 20) {
            int[] words = new int[5];
            for (int k = 0; k < 20; k++) {
                int sign = at + k < text.length() ? text.charAt(at + k) : 0;
                words[k / 4] |= sign << (24 - 8 * (k % 4));
            }
            x.feed(words[0], words[1], words[2], words[3], words[4]);
        }
        return x.end(text.length());
    }

    /** How many sections a format has, or "ill" and the place where it is. */
    static String format(NumberFormats x, String format) {
        type(x, format);
        try {
            return "" + x.format();
        } catch (IllegalArgumentException e) {
            return "ill " + x.illAt();
        }
    }

    static String format(String format) {
        return format(new NumberFormats(), format);
    }

    static String output(NumberFormats x, int length) {
        StringBuilder row = new StringBuilder();
        for (int k = 0; k < length; k++) {
            row.append((char) x.output(k));
        }
        if (x.output(length) != NumberFormats.NONE) {
            row.append(" and more");
        }
        return row.toString();
    }

    static String show(NumberFormats x) {
        try {
            return output(x, x.show());
        } catch (IllegalStateException e) {
            return "none";
        }
    }

    static String showText(NumberFormats x) {
        try {
            return output(x, x.showText());
        } catch (IllegalStateException e) {
            return "none";
        }
    }

    private static String show(NumberFormats x, String format, double v) {
        String ill = format(x, format);
        if (ill.startsWith("ill")) {
            return ill;
        }
        return x.set(v) ? show(x) : "not set";
    }

    static String show(String format, double v) {
        return show(new NumberFormats(), format, v);
    }

    private static String showText(NumberFormats x, String format, String text) {
        String ill = format(x, format);
        if (ill.startsWith("ill")) {
            return ill;
        }
        type(x, text);
        return showText(x);
    }

    static void shows(String format, double v, String want) {
        due("<" + format + "> shows " + v, show(format, v), want);
        due("a used object by <" + format + "> shows " + v, show(USED, format, v), want);
    }

    static void showsText(String format, String text, String want) {
        due("<" + format + "> shows text <" + text + ">", showText(new NumberFormats(), format, text), want);
        due("a used object by <" + format + "> shows text <" + text + ">", showText(USED, format, text), want);
    }

    static void formats(String format, String want) {
        due("<" + format + ">", format(format), want);
        due("a used object, <" + format + ">", format(USED, format), want);
    }
}
