import java.nio.charset.StandardCharsets;

/** What the tests of the project share: counting wrong answers, and telling a text to an object. */
final class Checks {
    private int wrong = 0;
    private int asked = 0;

    void due(String call, long got, long want) {
        asked++;
        if (got != want) {
            wrong++;
            if (wrong <= 50) {
                System.out.println(call + " answered " + got + ", due is " + want);
            }
        }
    }

    void due(String call, boolean got, boolean want) {
        due(call, got ? 1 : 0, want ? 1 : 0);
    }

    boolean isRight() {
        return wrong == 0;
    }

    void end() {
        System.out.println(wrong == 0 ? asked + " answers are as due" : wrong + " of " + asked + " answers are not as due");
        if (wrong != 0) {
            System.exit(1);
        }
    }

    /** Puts a text on an empty tape. */
    static void type(HandleFaces x, String text) {
        type(x, text.getBytes(StandardCharsets.ISO_8859_1));
    }

    static void type(HandleFaces x, byte[] bytes) {
        for (int at = 0; at < bytes.length; at += 20) {
            x.feed(word(bytes, at), word(bytes, at + 4), word(bytes, at + 8), word(bytes, at + 12), word(bytes, at + 16));
        }
        x.back((20 - bytes.length % 20) % 20);
    }

    static int word(byte[] bytes, int at) {
        int word = 0;
        for (int i = at; i < at + 4; i++) {
            word = word << 8 | (i < bytes.length ? bytes[i] & 255 : 32);
        }
        return word;
    }

    static int read(HandleFaces x, String text) {
        type(x, text);
        return x.read();
    }

    /** A new object with a text read. */
    static HandleFaces drawn(String text) {
        HandleFaces x = new HandleFaces();
        if (read(x, text) != 0) {
            throw new IllegalArgumentException(text);
        }
        return x;
    }
}
