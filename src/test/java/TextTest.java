/** Promises 1 to 5: a new object, the tape, texts and their faults. */
public final class TextTest {
    private static final Checks CHECKS = new Checks();
    private static final String TWO = "post a;post b;";

    public static void main(String[] args) {
        newObject();
        tape();
        rightTexts();
        tokens();
        syntax();
        room();
        twiceAndName();
        wrongAndLacks();
        firstFaultTells();
        whatReadChanges();
        CHECKS.end();
    }

    private static void newObject() {
        HandleFaces x = new HandleFaces();
        CHECKS.due("new: count(0)", x.count(0), 0);
        CHECKS.due("new: count(9)", x.count(9), 0);
        CHECKS.due("new: place()", x.place(), -1);
        CHECKS.due("new: round(0, -1)", x.round(0, -1), -1);
        CHECKS.due("new: undo()", x.undo(), false);
        CHECKS.due("new: restore(0)", x.restore(0), false);
    }

    private static void tape() {
        HandleFaces x = new HandleFaces();
        CHECKS.due("back(0) of an empty tape", x.back(0), 0);
        CHECKS.due("back(1) of an empty tape", x.back(1), -1);
        CHECKS.due("back(-1)", x.back(-1), -1);
        for (int k = 1; k <= 100; k++) {
            CHECKS.due("feed " + k, x.feed(0, 0, 0, 0, 0), 20 * k);
        }
        CHECKS.due("feed beyond 2000", x.feed(0, 0, 0, 0, 0), -1);
        CHECKS.due("count(9)", x.count(9), 2000);
        CHECKS.due("back(1)", x.back(1), 1999);
        CHECKS.due("feed beyond 2000", x.feed(0, 0, 0, 0, 0), -1);
        CHECKS.due("back(2000) of 1999", x.back(2000), -1);
        CHECKS.due("back(-2147483648)", x.back(Integer.MIN_VALUE), -1);
        CHECKS.due("back(2147483647)", x.back(Integer.MAX_VALUE), -1);
        CHECKS.due("back(19)", x.back(19), 1980);
        CHECKS.due("feed", x.feed(0, 0, 0, 0, 0), 2000);
        CHECKS.due("back(2000)", x.back(2000), 0);
        CHECKS.due("read of an empty text", x.read(), 0);
        // the highest byte of a comes first, and a byte above 127 is one
        x.feed(0x706F7374, 0x20610A3B, 0x0D093B20, 0xFF202020, 0x20202020);
        CHECKS.due("read", x.read(), 1);
        CHECKS.due("place", x.place(), 10);
        CHECKS.due("the tape is empty behind a read", x.count(9), 0);
    }

    private static void rightTexts() {
        HandleFaces x = new HandleFaces();
        CHECKS.due("an empty text", Checks.read(x, ""), 0);
        CHECKS.due("blanks alone", Checks.read(x, " \t\r\n"), 0);
        CHECKS.due("posts", x.count(0), 0);
        CHECKS.due("lines ahead of posts", Checks.read(x, "round b 1 0;line b a twisted;line a b;post a;post b;"), 0);
        CHECKS.due("place", x.place(), -1);
        CHECKS.due("first post", x.line(0, 0), 1);
        CHECKS.due("second post", x.line(0, 1), 0);
        CHECKS.due("twisted", x.count(3), 1);
        CHECKS.due("round told", x.round(1, 0), 1);
        CHECKS.due("round told", x.round(1, 1), 0);
        CHECKS.due("round not told", x.round(0, 0), 0);
        CHECKS.due("last round told", Checks.read(x, TWO + "line a b;line a b;line a b;round a 2 1 0;round a 1 2 0;"), 0);
        CHECKS.due("last round told", x.round(0, 0), 1);
        CHECKS.due("last round told", x.round(0, 1), 2);
        CHECKS.due("no blanks", Checks.read(x, TWO + "line a b;round a0;round b0000;"), 0);
        CHECKS.due("names of 8 letters", Checks.read(x, "post abcdefgh;post abcdefgi;line abcdefgh abcdefgi;"), 0);
        CHECKS.due("names like words", Checks.read(x, "post posts;post lin;post twistedx;post r;post rounds;"), 0);
        CHECKS.due("twisted at the end", Checks.read(x, TWO + "line a b;line b a twisted;"), 0);
        CHECKS.due("twisted at the end", x.count(3), 2);
        String full = "post a;post b;post c;post d;post e;post f;" + "line a f;".repeat(10);
        CHECKS.due("6 posts and 10 lines", Checks.read(x, full), 0);
        CHECKS.due("6 posts and 10 lines", x.count(0) * 100 + x.count(1), 610);
    }

    private static void tokens() {
        CHECKS.fault("post abcdefghi;", 1, 5);
        CHECKS.fault(TWO + "line a b;round a 00000;", 1, 31);
        CHECKS.fault("post A;", 1, 5);
        CHECKS.fault("post a:", 1, 6);
        CHECKS.fault("post {;", 1, 5);
        CHECKS.fault("post `;", 1, 5);
        CHECKS.fault("post a\0;", 1, 6);
        CHECKS.fault("post a\u000b;", 1, 6);
        CHECKS.fault("post a\f;", 1, 6);
        CHECKS.fault("post \u00e1;", 1, 5);
        CHECKS.fault("posta;", 1, 0);
        CHECKS.fault("post a1;", 1, 6);
        CHECKS.fault("-", 1, 0);
        CHECKS.fault("0", 1, 0);
    }

    private static void syntax() {
        CHECKS.fault("post", 1, 4);
        CHECKS.fault("post a", 1, 6);
        CHECKS.fault("post a \n", 1, 8);
        CHECKS.fault(";", 1, 0);
        CHECKS.fault("post ;", 1, 5);
        CHECKS.fault("post post;", 1, 5);
        CHECKS.fault("post twisted;", 1, 5);
        CHECKS.fault("post 1;", 1, 5);
        CHECKS.fault("post a b;", 1, 7);
        CHECKS.fault("post a;;", 1, 7);
        CHECKS.fault("twisted;", 1, 0);
        CHECKS.fault("line a;", 1, 6);
        CHECKS.fault("line a b c;", 1, 9);
        CHECKS.fault("line a b twisted twisted;", 1, 17);
        CHECKS.fault("line a line;", 1, 7);
        CHECKS.fault("line a b twisted", 1, 16);
        CHECKS.fault("round a;", 1, 7);
        CHECKS.fault("round 1;", 1, 6);
        CHECKS.fault("round a 1 b;", 1, 10);
        CHECKS.fault("round a 1 twisted;", 1, 10);
        CHECKS.fault("round a 1 2", 1, 11);
    }

    private static void room() {
        String six = "post a;post b;post c;post d;post e;post f;";
        CHECKS.fault(six + "  post g;", 2, 44);
        CHECKS.fault(six + "post a;", 2, 42);
        CHECKS.fault(six + "post ", 2, 42);
        CHECKS.fault(TWO + "line a b;".repeat(10) + " line a b;", 2, 105);
        CHECKS.fault(TWO + "line a b;".repeat(10) + "line a a;", 2, 104);
        String full = TWO + "line a b;line a b twisted;" + "round a 0 1;".repeat(77);
        CHECKS.fault(full, 0, -1);
        CHECKS.fault(full + " ", 0, -1);
        CHECKS.fault(full + "round a 0 1;", 2, full.length());
        CHECKS.fault(full + "round", 2, full.length());
        CHECKS.fault(full + ";", 1, full.length());
        CHECKS.fault(full + "!", 1, full.length());
        String cut = full.substring(0, full.length() - 1);
        CHECKS.fault(cut, 1, cut.length());
        CHECKS.fault(cut + " 1;", 2, cut.length() + 2);
        CHECKS.fault(cut + " 1 1;", 2, cut.length() + 3);
    }

    private static void twiceAndName() {
        CHECKS.fault("post a;post a;", 3, 12);
        CHECKS.fault("post a;post b;post a;post b;", 3, 19);
        CHECKS.fault("post a;line a a;", 3, 14);
        CHECKS.fault("line a a;", 4, 5);
        CHECKS.fault("post a;line a b;", 4, 14);
        CHECKS.fault("post b;line a b;", 4, 12);
        CHECKS.fault("round a 0;", 4, 6);
        CHECKS.fault("round a 0;post b;", 4, 6);
        CHECKS.fault("post ab;post aba;line ab abb;", 4, 25);
    }

    private static void wrongAndLacks() {
        CHECKS.fault("post a;round a 0;", 5, 15);
        CHECKS.fault(TWO + "line a b;round a 1;", 5, 31);
        CHECKS.fault(TWO + "line a b;round a 0 0;", 5, 33);
        CHECKS.fault(TWO + "line a b;round a 9999;", 5, 31);
        CHECKS.fault(TWO + "line a b;round a 32;", 5, 31);
        CHECKS.fault(TWO + "line a b;round a 64;", 5, 31);
        CHECKS.fault(TWO + "post c;line a b;line b c;round a 0 1;", 5, 49);
        CHECKS.fault(TWO + "line a b;line a b;round a 1 ;", 6, 42);
        CHECKS.fault(TWO + "line a b;line a b;round a 1;round a 0 1;", 6, 41);
        CHECKS.fault("round a 0;" + TWO + "line a b;line a b;", 6, 9);
        CHECKS.fault("round a 0 1;" + TWO + "line a b;line a b;", 0, -1);
    }

    private static void firstFaultTells() {
        CHECKS.fault("line x y;post a;post a", 1, 22);
        CHECKS.fault("post a;line a a;line x a;", 3, 14);
        CHECKS.fault("post a;line x a;line a a;", 4, 12);
        CHECKS.fault("round a 0;post a;post a;", 5, 8);
        CHECKS.fault("post a;post a;round a 0;", 3, 12);
        CHECKS.fault("round a 0;post a;line a b;", 4, 24);
        CHECKS.fault("round a 0;post a;line a b;line a c;", 6, 9);
        CHECKS.fault(TWO + "line a b;round c 5;round a 5;", 4, 29);
    }

    private static void whatReadChanges() {
        HandleFaces x = Checks.drawn(TWO + "line a b;");
        x.twist(0);
        x.hold(1);
        CHECKS.due("a fault", Checks.read(x, "post a;post"), 1);
        CHECKS.due("place", x.place(), 11);
        CHECKS.due("a fault keeps the drawing", x.count(3), 1);
        CHECKS.due("a fault keeps what can be undone", x.count(10), 1);
        CHECKS.due("a fault keeps slots", x.count(11), 1);
        CHECKS.due("a fault empties the tape", x.count(9), 0);
        x.undo();
        CHECKS.due("other calls keep the place", x.place(), 11);
        x.twist(0);
        CHECKS.due("no fault", Checks.read(x, "post a;"), 0);
        CHECKS.due("place", x.place(), -1);
        CHECKS.due("posts", x.count(0), 1);
        CHECKS.due("lines", x.count(1), 0);
        CHECKS.due("twisted ones", x.count(3), 0);
        CHECKS.due("nothing can be undone", x.undo(), false);
        CHECKS.due("slots hold nothing", x.restore(1), false);
        CHECKS.due("slots hold nothing", x.count(11), 0);
    }
}
