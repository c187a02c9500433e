import java.nio.charset.StandardCharsets;

/** Counts what was asked and what was answered otherwise than is due. */
final class Checks {
    private final String suite;
    private String about = "";
    private int asked;
    private int wrong;

    Checks(String suite) {
        this.suite = suite;
    }

    void about(String subject) {
        about = subject;
    }

    void due(String call, long got, long want) {
        asked++;
        if (got == want) return;
        wrong++;
        System.out.println(suite + ", " + about + ": " + call + " answered " + got + ", due is " + want);
    }

    void holds(String what, boolean is) {
        due(what, is ? 1 : 0, 1);
    }

    int wrong() {
        return wrong;
    }

    void end() {
        System.out.println(suite + ": " + asked + " asked, " + wrong + " wrong");
        if (asked == 0 || wrong != 0) System.exit(1);
    }

    /** Writes a text in packs of eight bytes and fewer; answers what the last pack answered. */
    static int write(ThirdLetter x, String text) {
        byte[] bytes = text.getBytes(StandardCharsets.ISO_8859_1);
        int answer = x.count(6);
        for (int from = 0; from < bytes.length; from += 8) {
            int n = Math.min(8, bytes.length - from);
            long packed = 0;
            for (int i = 0; i < n; i++) packed |= (bytes[from + i] & 255L) << 8 * i;
            answer = x.write(packed, n);
        }
        return answer;
    }

    /** A new object to which texts were told, one order each. */
    static ThirdLetter told(String... texts) {
        ThirdLetter x = new ThirdLetter();
        for (String text : texts) tell(x, text);
        return x;
    }

    static int tell(ThirdLetter x, String text) {
        write(x, text);
        return x.order();
    }

    /** The fault of a text that is told to an object as it stands; the text is erased again. */
    static int faultOf(ThirdLetter x, String text) {
        write(x, text);
        int fault = x.fault();
        x.erase();
        return fault;
    }

    /** SOUND becomes this row: small letters, and points for holes. */
    static void soundAs(ThirdLetter x, String row) {
        x.hush();
        for (char c : row.toCharArray()) x.sound(c == '.' ? 0 : c - 'a' + 1);
    }

    static void preachAll(ThirdLetter x, int... words) {
        for (int word : words) x.preach(word);
    }

    /** What is heard of the letters that are said, as a row of small letters and points. */
    static String heardRow(ThirdLetter x) {
        StringBuilder row = new StringBuilder();
        int heard = x.heard(0);
        while (heard >= 0 && row.length() < 60) {
            row.append(heard == 0 ? '.' : (char) ('a' + heard - 1));
            heard = x.heard(row.length());
        }
        return row.toString();
    }
}
