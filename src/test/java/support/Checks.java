import java.nio.charset.StandardCharsets;

/** What the tests of the project share: counting wrong answers, telling a text to an object, looking at a drawing. */
final class Checks {
    private int wrong = 0;
    private int asked = 0;
    private int sentences = 0;
    private String sentence = "";

    /** The words of the document that the answers asked from now on hold, or break. */
    void sentence(String words) {
        sentences++;
        sentence = "\"" + words + "\": ";
    }

    void due(String call, long got, long want) {
        asked++;
        if (got != want) {
            tell(call + " answered " + got + ", due is " + want);
        }
    }

    void due(String call, boolean got, boolean want) {
        due(call, got ? 1 : 0, want ? 1 : 0);
    }

    void due(String call, String got, String want) {
        asked++;
        if (!got.equals(want)) {
            tell(call + " shows " + got + ", due is " + want);
        }
    }

    private void tell(String what) {
        wrong++;
        if (wrong <= 50) {
            System.out.println(sentence + what);
        }
    }

    /** What a new object answers to a text, and where the fault is. */
    void fault(String text, int fault, int place) {
        HandleFaces x = new HandleFaces();
        String shown = text.length() <= 200 ? text : ".." + text.substring(text.length() - 100);
        due("read [" + shown + "]", read(x, text), fault);
        due("place [" + shown + "]", x.place(), place);
    }

    /** A drawing shown as look() does. */
    void shows(String call, HandleFaces x, String want) {
        due(call, look(x), want);
    }

    boolean isRight() {
        return wrong == 0;
    }

    void end() {
        String told = sentences == 0 ? "" : sentences + " sentences, ";
        System.out.println(told + (wrong == 0 ? asked + " answers are as due"
            : wrong + " of " + asked + " answers are not as due"));
        if (wrong != 0) {
            System.exit(1);
        }
    }

    /** Puts a text on an empty tape. */
    static void type(HandleFaces x, String text) {
        type(x, text.getBytes(StandardCharsets.ISO_8859_1));
    }

    static void type(HandleFaces x, byte[] bytes) {
        for (int at = 0; at < bytes.length; at += 20) {
            x.feed(word(bytes, at), word(bytes, at + 4), word(bytes, at + 8), word(bytes, at + 12), word(bytes, at + 16));
        }
        x.back((20 - bytes.length % 20) % 20);
    }

    static int word(byte[] bytes, int at) {
        int word = 0;
        for (int i = at; i < at + 4; i++) {
            word = word << 8 | (i < bytes.length ? bytes[i] & 255 : 32);
        }
        return word;
    }

    static int read(HandleFaces x, String text) {
        type(x, text);
        return x.read();
    }

    /** A new object with a text read. */
    static HandleFaces drawn(String text) {
        HandleFaces x = new HandleFaces();
        if (read(x, text) != 0) {
            throw new IllegalArgumentException(text);
        }
        return x;
    }

    /** So many posts a, b, c .. and lines between them, each told by two letters, with a third one if it is twisted. */
    static HandleFaces drawn(int posts, String... lines) {
        return drawn(tells(posts, lines));
    }

    static String tells(int posts, String... lines) {
        StringBuilder text = new StringBuilder();
        for (int post = 0; post < posts; post++) {
            text.append("post ").append((char) ('a' + post)).append(';');
        }
        for (String line : lines) {
            text.append("line ").append(line.charAt(0)).append(' ').append(line.charAt(1));
            text.append(line.length() > 2 ? " twisted;" : ";");
        }
        return text.toString();
    }

    /** Lines by their posts' numbers, ~ if twisted, then the rounds: "01 02~ : 01/0/1". */
    static String look(HandleFaces x) {
        StringBuilder out = new StringBuilder();
        for (int line = 0; line < x.count(1); line++) {
            out.append(x.line(line, 0)).append(x.line(line, 1)).append(x.line(line, 2) == 1 ? "~ " : " ");
        }
        out.append(":");
        for (int post = 0; post < x.count(0); post++) {
            out.append(post == 0 ? " " : "/");
            for (int i = 0; i < x.round(post, -1); i++) {
                out.append(x.round(post, i));
            }
        }
        return out.toString();
    }

    /** All that a refused call must leave as it was. */
    static String lookAtAll(HandleFaces x) {
        return look(x) + " tape " + x.count(9) + " past " + x.count(10) + " slots " + x.count(11) + " place " + x.place();
    }

    /** The lines of a face's walk. */
    static String walk(HandleFaces x, int face) {
        StringBuilder out = new StringBuilder();
        for (int i = 0; i < x.face(face, -1); i++) {
            out.append(x.face(face, i));
        }
        return out.toString();
    }

    /** The same text so many times. */
    static String[] times(int n, String line) {
        String[] lines = new String[n];
        java.util.Arrays.fill(lines, line);
        return lines;
    }
}
