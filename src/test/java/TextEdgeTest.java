import java.nio.charset.StandardCharsets;
import java.util.List;

/**
 * Sentences of the document that name a boundary, of texts ("Terms", ==== I) and of promises 1 to 5: each has a test of
 * its own, which tells the sentence if it is broken.
 */
public final class TextEdgeTest {
    private static final Checks CHECKS = new Checks();
    private static final int LOW = Integer.MIN_VALUE;
    private static final int HIGH = Integer.MAX_VALUE;
    private static final String PAIR = "post a;post b;";
    private static final String JOINED = PAIR + "line a b;";
    private static final String SIX_POSTS = "post a;post b;post c;post d;post e;post f;";
    private static final String TEN_LINES = "line a b;".repeat(10);
    /** 5 * 3 + 4 + 5 + 94 * 4 = 400 tokens. */
    private static final String FOUR_HUNDRED = "post a;post b;post c;post d;post e;line a b;line c d twisted;"
        + "round c 1;".repeat(93) + "round a 0 ;";

    public static void main(String[] args) {
        textsAndTokens();
        grammar();
        postsLinesRounds();
        faultsBeforeNames();
        faultsOfNames();
        whatATextChanges();
        newObject();
        feed();
        back();
        read();
        place();
        CHECKS.end();
    }

    private static String blanks(int n) {
        return " ".repeat(n);
    }

    private static void textsAndTokens() {
        longestText();
        longestTokens();
        blanksBetween();
        letters();
        eightLetters();
        wordsInQuotes();
        digits();
        noTokens();
    }

    private static void longestText() {
        CHECKS.sentence("A TEXT has 2,000 bytes at most");
        HandleFaces x = new HandleFaces();
        CHECKS.due("read of 2,000 bytes", Checks.read(x, "post a" + blanks(1993) + ";"), 0);
        CHECKS.due("its post", x.count(0), 1);
        CHECKS.fault(blanks(1999) + "!", 1, 1999);
        CHECKS.fault(blanks(2000), 0, -1);
        CHECKS.fault("post a" + blanks(1994), 1, 2000);
        CHECKS.fault("a".repeat(2000), 1, 0);
        CHECKS.fault("0".repeat(2000), 1, 0);
        CHECKS.fault(JOINED + "round a " + "0".repeat(1969), 1, 31);
    }

    private static void longestTokens() {
        CHECKS.sentence("TOKENS, the longest that can be");
        CHECKS.fault("posta;", 1, 0);
        CHECKS.fault("post postline;", 0, -1);
        CHECKS.fault(PAIR + "line a btwisted;", 4, 21);
        CHECKS.fault(PAIR + "line ab;", 1, 21);
        CHECKS.fault(JOINED + "round a 00;", 0, -1);
        CHECKS.fault(JOINED + "round a 0 0;", 5, 33);
        CHECKS.fault(JOINED + "rounda 0;", 1, 23);
    }

    private static void blanksBetween() {
        CHECKS.sentence("with blanks (9, 10, 13, 32) between or not");
        for (int sign = 0; sign < 256; sign++) {
            boolean blank = sign == 9 || sign == 10 || sign == 13 || sign == 32;
            boolean own = sign >= 'a' && sign <= 'z' || sign >= '0' && sign <= '9' || sign == ';';
            if (!own) {
                CHECKS.fault("post a" + (char) sign + ";", blank ? 0 : 1, blank ? -1 : 6);
            }
        }
        CHECKS.fault("\t\n\r post\t\n\r a\t\n\r ;\t\n\r ", 0, -1);
        CHECKS.fault(PAIR + "line a b;round a0;round b0;", 0, -1);
        CHECKS.fault("post\ta;post\nb;line\ra\tb\ntwisted\r;", 0, -1);
    }

    private static void letters() {
        CHECKS.sentence("NAMES (letters a .. z");
        CHECKS.fault("post a;post z;line a z;line z a;", 0, -1);
        CHECKS.fault("post azaz;post zaza;line azaz zaza;", 0, -1);
        for (char sign : new char[] {'`', '{', 'A', 'Z', '_', '0', 225, 250, 255}) {
            CHECKS.fault("post " + sign + ";", 1, 5);
        }
        CHECKS.fault("post aB;", 1, 6);
    }

    private static void eightLetters() {
        CHECKS.sentence("8 at most");
        HandleFaces x = new HandleFaces();
        String text = "post zzzzzzzz;post zzzzzzzy;post yzzzzzzz;post zzzzzzz;"
            + "line zzzzzzzz zzzzzzz;line yzzzzzzz zzzzzzzy;";
        CHECKS.due("read", Checks.read(x, text), 0);
        CHECKS.shows("names that differ by one letter", x, "03 21 : 0/1/1/0");
        CHECKS.fault("post abcdefghi;", 1, 5);
        CHECKS.fault("post aaaaaaaaa;", 1, 5);
        CHECKS.fault("post a;line a aaaaaaaaa;", 1, 14);
        CHECKS.fault("post aaaaaaaaaaaaa;", 1, 5);
        CHECKS.fault("post aaaaaaaapost;", 1, 5);
    }

    private static void wordsInQuotes() {
        CHECKS.sentence("none of the words in quotes");
        for (String word : List.of("post", "line", "round", "twisted")) {
            CHECKS.fault("post " + word + ";", 1, 5);
            CHECKS.fault("line " + word + " a;", 1, 5);
            CHECKS.fault("round " + word + " 0;", 1, 6);
            CHECKS.fault("post " + word + "s;", 0, -1);
            CHECKS.fault("post x" + word + ";", 0, -1);
            CHECKS.fault("post " + word.substring(1) + ";", 0, -1);
            CHECKS.fault("post " + word.substring(0, word.length() - 1) + ";", 0, -1);
            for (int i = 0; i < word.length(); i++) {
                CHECKS.fault("post " + word.substring(0, i) + "z" + word.substring(i + 1) + ";", 0, -1);
            }
        }
        for (String word : List.of("post", "line", "round")) {
            CHECKS.fault(PAIR + "line a " + word + ";", 1, 21);
        }
        CHECKS.fault(PAIR + "line a twisted;", 1, 21);
    }

    private static void digits() {
        CHECKS.sentence("INTS (1 to 4 digits)");
        CHECKS.fault(JOINED + "round a 0;", 0, -1);
        CHECKS.fault(JOINED + "round a 0000;", 0, -1);
        CHECKS.fault(JOINED + "round a 00000;", 1, 31);
        CHECKS.fault(JOINED + "round a 9999;", 5, 31);
        CHECKS.fault(JOINED + "round a 10000;", 1, 31);
        CHECKS.fault(JOINED + "round a 4294967296;", 1, 31);
        CHECKS.fault(JOINED + "round a /;", 1, 31);
        CHECKS.fault(JOINED + "round a :;", 1, 31);
        CHECKS.fault(JOINED + "round a -0;", 1, 31);
        HandleFaces x = new HandleFaces();
        CHECKS.due("read", Checks.read(x, PAIR + TEN_LINES + "round a 9 8 007 6 5 0004 03 2 1 0;"), 0);
        CHECKS.shows("round", x, "01 ".repeat(10) + ": 9876543210/0123456789");
    }

    private static void noTokens() {
        CHECKS.sentence("A longer one, all else, is no TOKEN");
        CHECKS.fault("abcdefghi", 1, 0);
        CHECKS.fault(" abcdefghi", 1, 1);
        CHECKS.fault("12345", 1, 0);
        CHECKS.fault("post a ;:", 1, 8);
        CHECKS.fault("post a;\u0080", 1, 7);
        CHECKS.fault("post a;\u00ff", 1, 7);
        CHECKS.fault("post a;\0", 1, 7);
        CHECKS.fault("post \u00e1;", 1, 5);
        CHECKS.fault("post a\u00bb", 1, 6);
    }

    private static void grammar() {
        emptyText();
        twistedOrNot();
        oneIntAtLeast();
        noTextGoesOn();
    }

    private static void emptyText() {
        CHECKS.sentence("text: {TELL}.");
        CHECKS.fault("", 0, -1);
        CHECKS.fault(" ", 0, -1);
        HandleFaces x = Checks.drawn(JOINED);
        CHECKS.due("an empty text", Checks.read(x, ""), 0);
        CHECKS.shows("is in place of the one ahead", x, ":");
        CHECKS.fault("post a;", 0, -1);
        CHECKS.fault("line a b;post b;post a;", 0, -1);
    }

    private static void twistedOrNot() {
        CHECKS.sentence("'line' NAME NAME ['twisted'] ';'");
        CHECKS.shows("lines", Checks.drawn(PAIR + "line a b;line b a twisted;"), "01 10~ : 01/01");
        CHECKS.fault(PAIR + "line a b twisted twisted;", 1, 31);
        CHECKS.fault(PAIR + "line a twisted b;", 1, 21);
        CHECKS.fault(PAIR + "line twisted a b;", 1, 19);
    }

    private static void oneIntAtLeast() {
        CHECKS.sentence("'round' NAME INT {INT} ';'");
        CHECKS.fault(JOINED + "round a;", 1, 30);
        CHECKS.fault("post a;round a;", 1, 14);
        CHECKS.fault(JOINED + "round a 0;", 0, -1);
        CHECKS.fault(PAIR + TEN_LINES + "round a 0 1 2 3 4 5 6 7 8 9;", 0, -1);
    }

    /** Each place of a text, with every kind of token behind it, and the end of the text there. */
    private static void noTextGoesOn() {
        CHECKS.sentence("1 SYNTAX: a TOKEN, or what is none, with which no text goes on");
        String[][] places = {
            {"", "post line round"}, {"post", "c"}, {"post c", ";"}, {"line", "c"}, {"line a", "c"},
            {"line a b", "twisted ;"}, {"line a b twisted", ";"}, {"round", "c"}, {"round a", "0"}, {"round a 0", "0 ;"}};
        String[] tokens = {"post", "line", "round", "twisted", "c", "0", ";", "!", "abcdefghi", "12345"};
        for (String[] place : places) {
            String text = JOINED + place[0];
            CHECKS.fault(text, place[0].isEmpty() ? 0 : 1, place[0].isEmpty() ? -1 : text.length());
            for (String token : tokens) {
                HandleFaces x = new HandleFaces();
                int fault = Checks.read(x, text + " " + token);
                boolean goesOn = List.of(place[1].split(" ")).contains(token);
                CHECKS.due("[" + text + " " + token + "] is refused there",
                    fault == 1 && x.place() == text.length() + 1, !goesOn);
            }
        }
    }

    private static void postsLinesRounds() {
        sixPosts();
        tenLines();
        severalJoinTheSame();
        numberedAsTheyStand();
        lastAheadOfTheFirst();
        notToldByNumbers();
        lastOneTold();
        allEachOnce();
    }

    private static void sixPosts() {
        CHECKS.sentence("POSTS, 6 at most");
        CHECKS.shows("6 posts", Checks.drawn(SIX_POSTS + "line a f;"), "05 : 0/////0");
        CHECKS.fault(SIX_POSTS + "post g;", 2, 42);
    }

    private static void tenLines() {
        CHECKS.sentence("LINES, 10 at most");
        CHECKS.due("10 lines", Checks.drawn(SIX_POSTS + TEN_LINES).count(1), 10);
        CHECKS.fault(SIX_POSTS + TEN_LINES + "line a b;", 2, 132);
    }

    private static void numberedAsTheyStand() {
        CHECKS.sentence("numbered from 0 on each as they stand");
        CHECKS.shows("lines told ahead of posts", Checks.drawn("line c a;post b;line a b;post c;post a;"),
            "12 20 : 1/0/01");
    }

    private static void severalJoinTheSame() {
        CHECKS.sentence("another one (several may join the same two)");
        CHECKS.shows("both ways", Checks.drawn(PAIR + "line a b;line b a;line a b;"), "01 10 01 : 012/012");
        CHECKS.due("10 of the same two", Checks.drawn(PAIR + TEN_LINES).round(1, -1), 10);
        CHECKS.fault(PAIR + "line b b;", 3, 21);
    }

    private static void lastAheadOfTheFirst() {
        CHECKS.sentence("the last one ahead of the first again");
        // forth at b behind line 2, its last one, comes line 0
        CHECKS.due("walk", Checks.walk(Checks.drawn(2, "ab", "ab", "ab"), 0), "012012");
        // back at b ahead of line 0, its first one, comes line 2
        CHECKS.due("walk", Checks.walk(Checks.drawn(2, "ab~", "ab", "ab"), 0), "021012");
    }

    private static void notToldByNumbers() {
        CHECKS.sentence("if not told by their numbers");
        CHECKS.shows("no round told", Checks.drawn("line b a;line c b;line b c;line a b;post a;post b;post c;"),
            "10 21 12 01 : 03/0123/12");
        CHECKS.shows("one round told", Checks.drawn(PAIR + "line a b;line a b;round b 1 0;"), "01 01 : 01/10");
    }

    private static void lastOneTold() {
        CHECKS.sentence("'round' tells it (the last one told of it)");
        String three = PAIR + "line a b;line a b;line a b;";
        CHECKS.shows("two of one post", Checks.drawn(three + "round a 2 1 0;round b 1 2 0;round a 1 0 2;"),
            "01 01 01 : 102/120");
        CHECKS.shows("ahead of its post and lines", Checks.drawn("round a 2 0 1;" + three + "round b 0 2 1;"),
            "01 01 01 : 201/021");
        CHECKS.shows("the last is by numbers", Checks.drawn(three + "round a 2 1 0;round a 0 1 2;"),
            "01 01 01 : 012/012");
    }

    private static void allEachOnce() {
        CHECKS.sentence("all LINES of the POST, each once");
        CHECKS.fault(JOINED + "line a b;round a 0 1;", 0, -1);
        CHECKS.fault(JOINED + "line a b;round a 0;", 6, 41);
        CHECKS.fault(JOINED + "line a b;round a 0 1 0;", 5, 44);
    }

    private static void faultsBeforeNames() {
        firstByPlace();
        endOfText();
        leastOfOnePlace();
        tokens401();
        seventhPost();
        eleventhLine();
    }

    private static void firstByPlace() {
        CHECKS.sentence("FAULTS of a text, the first by its place");
        CHECKS.fault(SIX_POSTS + "post g;!", 2, 42);
        CHECKS.fault("!" + SIX_POSTS + "post g;", 1, 0);
        CHECKS.fault(PAIR + TEN_LINES + "line a b;" + SIX_POSTS, 2, 104);
        CHECKS.fault(PAIR + "post c;post d;post e;post f;post g;" + TEN_LINES + "line a b;", 2, 42);
        CHECKS.fault("post a;round a 0;post a;", 5, 15);
        CHECKS.fault("post a;post a;round a 0;", 3, 12);
        CHECKS.fault(JOINED + "line a b;round a 0;line a c;", 6, 41);
        CHECKS.fault(JOINED + "line a b;line a c;round a 0;", 4, 39);
    }

    private static void endOfText() {
        CHECKS.sentence("the text's end: its length");
        CHECKS.fault("post", 1, 4);
        CHECKS.fault("post a", 1, 6);
        CHECKS.fault("post a  \n", 1, 9);
        CHECKS.fault(JOINED + "round a 0", 1, 32);
        CHECKS.fault(blanks(1996) + "post", 1, 2000);
    }

    private static void leastOfOnePlace() {
        CHECKS.sentence("of one place the least");
        CHECKS.fault(FOUR_HUNDRED, 0, -1);
        CHECKS.fault(FOUR_HUNDRED + ";", 1, FOUR_HUNDRED.length());
        CHECKS.fault(FOUR_HUNDRED + "a", 1, FOUR_HUNDRED.length());
        CHECKS.fault(FOUR_HUNDRED + "abcdefghi", 1, FOUR_HUNDRED.length());
        CHECKS.fault(FOUR_HUNDRED + "?", 1, FOUR_HUNDRED.length());
    }

    private static void tokens401() {
        CHECKS.sentence("2 ROOM: a 401st TOKEN");
        int end = FOUR_HUNDRED.length();
        CHECKS.fault(FOUR_HUNDRED + "  \n", 0, -1);
        CHECKS.fault(FOUR_HUNDRED + "  post f;", 2, end + 2);
        CHECKS.fault(FOUR_HUNDRED + "line", 2, end);
        String open = FOUR_HUNDRED.substring(0, end - 1);
        CHECKS.fault(open, 1, end - 1);
        CHECKS.fault(open + "0", 1, end);
        CHECKS.fault(open + "0;", 2, end);
        CHECKS.fault(open + "0 0;", 2, end + 1);
        CHECKS.fault(open + "0 a;", 1, end + 1);
        CHECKS.fault(";".repeat(401), 1, 0);
        CHECKS.fault("post a;round a " + "0 ".repeat(395) + ";", 2, 805);
        CHECKS.fault("post a;round a " + "0 ".repeat(394) + ";", 5, 15);
    }

    private static void seventhPost() {
        CHECKS.sentence("a 7th POST");
        CHECKS.fault(SIX_POSTS + " \tpost g;", 2, 44);
        CHECKS.fault(SIX_POSTS + "post a;", 2, 42);
        CHECKS.fault("post a;".repeat(6), 3, 12);
        CHECKS.fault("post a;".repeat(7), 2, 42);
        CHECKS.fault(SIX_POSTS + "line a b;line b c;post g;", 2, 60);
    }

    private static void eleventhLine() {
        CHECKS.sentence("an 11th LINE (at the line's first word)");
        CHECKS.fault(PAIR + TEN_LINES + "  line a b twisted;", 2, 106);
        CHECKS.fault("line a b;".repeat(10), 4, 5);
        CHECKS.fault("line a b;".repeat(11), 2, 90);
        CHECKS.fault(PAIR + TEN_LINES + "post c;round a 0;line a b;", 2, 121);
    }

    private static void faultsOfNames() {
        ifThereIsNone();
        postToldAlready();
        secondIsItsFirst();
        noPostOfTheText();
        noLineOfThatPost();
        toldAlreadyInThatRound();
        notAskedIfNameIsWrong();
        notAllLines();
    }

    private static void ifThereIsNone() {
        CHECKS.sentence("If there is none, likewise");
        CHECKS.fault("post a;post a;post", 1, 18);
        CHECKS.fault("line x y;" + SIX_POSTS + "post g;", 2, 51);
        CHECKS.fault("round x 0;post a;!", 1, 17);
        CHECKS.fault("round a 0;post a;" + TEN_LINES + "line a b;", 2, 107);
        CHECKS.fault("round x 0;post a;post a;", 4, 6);
    }

    private static void postToldAlready() {
        CHECKS.sentence("3 TWICE: (at it) a POST's NAME told already");
        CHECKS.fault("post a;post  a;", 3, 13);
        CHECKS.fault("post a;post b;post c;post d;post e;post a;", 3, 40);
        CHECKS.fault("post aa;post a;post aaa;", 0, -1);
        CHECKS.fault("line a b;post a;post b;", 0, -1);
        unlikeNames();
    }

    /** No two names that differ by one letter, or by one more in front, are taken for one another. */
    private static void unlikeNames() {
        for (char one = 'a'; one <= 'z'; one++) {
            for (char other = 'a'; other <= 'z'; other++) {
                for (int at = 0; at < 8 && one < other; at++) {
                    String left = "mnopqrst".substring(0, at);
                    String right = "mnopqrst".substring(at + 1);
                    unlike(left + one + right, left + other + right);
                    unlike(left + one, left + other);
                }
                unlike("" + one, "" + other + one);
                unlike("" + one, "" + one + other);
            }
        }
    }

    private static void unlike(String one, String other) {
        CHECKS.due("post " + one + ";post " + other + ";", Checks.read(new HandleFaces(), "post " + one + ";post " + other
            + ";"), 0);
    }

    private static void secondIsItsFirst() {
        CHECKS.sentence("the second NAME of a LINE that is its first one");
        CHECKS.fault("post a;line a  a;", 3, 15);
        CHECKS.fault("line a a twisted;post a;", 3, 7);
        CHECKS.fault("line x x;post a;", 4, 5);
        CHECKS.fault(PAIR + "line a b;line b a;line b b;", 3, 39);
    }

    private static void noPostOfTheText() {
        CHECKS.sentence("4 NAME: (at it) no POST of the whole text");
        CHECKS.fault("line a b;", 4, 5);
        CHECKS.fault("post a;line  c a;", 4, 13);
        CHECKS.fault("post a;line a  c;", 4, 15);
        CHECKS.fault("post a;round  c 0;", 4, 14);
        CHECKS.fault("round b 0;line a b;post b;post a;", 0, -1);
        CHECKS.fault("line f a;" + SIX_POSTS, 0, -1);
        CHECKS.fault("post ab;line ab a;", 4, 16);
        // the posts of the text ahead are none of this one
        HandleFaces x = Checks.drawn(JOINED);
        CHECKS.due("read", Checks.read(x, "line a b;"), 4);
    }

    private static void noLineOfThatPost() {
        CHECKS.sentence("5 WRONG: (at the INT) no LINE of that POST, by the whole text");
        CHECKS.fault("post a;round a  0;", 5, 16);
        CHECKS.fault(JOINED + "round a 1;", 5, 31);
        CHECKS.fault(JOINED + "round a 0 1;", 5, 33);
        CHECKS.fault(JOINED + "post c;line b c;round c 0;", 5, 47);
        CHECKS.fault(JOINED + "post c;line b c;round c 1 0;", 5, 49);
        CHECKS.fault("round a 0;" + JOINED, 0, -1);
        CHECKS.fault("round a 1 0;" + JOINED + "line b a;", 0, -1);
        CHECKS.fault("round a 1;" + JOINED, 5, 8);
        CHECKS.fault(PAIR + TEN_LINES + "round a 10;", 5, 112);
        for (int number : new int[] {31, 32, 33, 63, 64, 96, 128, 256, 4096, 8192}) {
            CHECKS.fault(JOINED + "round a " + number + ";", 5, 31);
        }
    }

    private static void toldAlreadyInThatRound() {
        CHECKS.sentence("or one told already in that 'round'");
        CHECKS.fault(JOINED + "round a 0 0;", 5, 33);
        CHECKS.fault(JOINED + "line a b;round a 1 0 1;", 5, 44);
        CHECKS.fault(JOINED + "line a b;round a 1 1;", 5, 42);
        CHECKS.fault(JOINED + "round a 0;round a 0;round b 0;", 0, -1);
        CHECKS.fault(JOINED + "round a 0 000;", 5, 33);
    }

    private static void notAskedIfNameIsWrong() {
        CHECKS.sentence("(not asked if the POST's NAME is wrong)");
        CHECKS.fault(JOINED + "round c 7 7;", 4, 29);
        CHECKS.fault("round c 0 0;", 4, 6);
    }

    private static void notAllLines() {
        CHECKS.sentence("6 LACKS: (at the ; of a 'round' without 4, 5) not all LINES of the POST");
        CHECKS.fault(JOINED + "line a b;round a 0  ;", 6, 43);
        CHECKS.fault(JOINED + "line a b;round a 1;", 6, 41);
        CHECKS.fault(JOINED + "line a b;round a 0 2;", 5, 42);
        CHECKS.fault(JOINED + "line a b;round a 0;round a 0 1;", 6, 41);
        CHECKS.fault("round a 0;" + JOINED + "line b a;", 6, 9);
        CHECKS.fault(PAIR + TEN_LINES + "round b 0 1 2 3 4 5 6 7 8;", 6, 129);
        CHECKS.fault(JOINED + "post c;line a c;line b c;round c 1 2;round a 0 1;round b 2 0;", 0, -1);
    }

    private static void whatATextChanges() {
        faultChangesNothing();
        inPlaceOfTheOneAhead();
        nothingCanBeUndone();
        slotsHoldNothing();
    }

    private static HandleFaces worked() {
        HandleFaces x = Checks.drawn(PAIR + "line a b;line b a twisted;");
        x.hold(0);
        x.lay(0, 0, 1, 1, true);
        x.hold(2);
        x.flip(1);
        return x;
    }

    private static void faultChangesNothing() {
        CHECKS.sentence("A text with a FAULT changes nothing but the tape");
        String[] texts = {"post c;!", "post c;".repeat(7), "post c;post c;", "post c;line c d;", "post c;round c 0;",
            JOINED + "line a b;round a 1;"};
        for (int fault = 1; fault <= 6; fault++) {
            HandleFaces x = worked();
            String before = Checks.look(x);
            CHECKS.due("read", Checks.read(x, texts[fault - 1]), fault);
            CHECKS.shows("fault " + fault, x, before);
            CHECKS.due("fault " + fault + ": the tape", x.count(9), 0);
            CHECKS.due("fault " + fault + ": things to undo", x.count(10), 2);
            CHECKS.due("fault " + fault + ": slots", x.count(11), 2);
            CHECKS.due("fault " + fault + ": faces", x.count(2), worked().count(2));
            x.undo();
            CHECKS.shows("fault " + fault + ": undone", x, "01 10~ 01~ : 021/012");
            x.undo();
            CHECKS.shows("fault " + fault + ": undone twice", x, "01 10~ : 01/01");
            CHECKS.due("fault " + fault + ": restore", x.restore(2), true);
            CHECKS.shows("fault " + fault + ": restored", x, "01 10~ 01~ : 021/012");
        }
    }

    private static void inPlaceOfTheOneAhead() {
        CHECKS.sentence("else it is in place of the one ahead");
        HandleFaces x = worked();
        CHECKS.due("read", Checks.read(x, "post a;post b;post c;line c b;"), 0);
        CHECKS.shows("another text", x, "21 : /0/0");
        CHECKS.due("faces", x.count(2), 2);
        CHECKS.due("twisted ones", x.count(3), 0);
        CHECKS.due("read", Checks.read(x, ""), 0);
        CHECKS.shows("an empty text", x, ":");
        CHECKS.due("faces", x.count(2), 0);
        // what was asked of the one ahead is not told of the next one
        HandleFaces y = Checks.drawn(2, "ab", "ab", "ab");
        CHECKS.due("all(2)", y.all(2), 1);
        CHECKS.due("capped()", y.capped(), 0);
        Checks.read(y, PAIR + "line a b;line a b;");
        CHECKS.due("all(2)", y.all(2), 0);
        CHECKS.due("needing(0)", y.needing(0), 1);
        unlikeNetworks();
    }

    /** One object is told networks that differ by one end of one line, or by one line, and answers as a new one does. */
    private static void unlikeNetworks() {
        String[] base = {"ab", "bc", "ca", "ad", "cd", "ab", "bd"};
        for (int at = 0; at < 2 * base.length; at++) {
            HandleFaces used = Checks.drawn(4, base);
            askAll(used, Checks.drawn(4, base));
            for (char post = 'a'; post <= 'd'; post++) {
                StringBuilder line = new StringBuilder(base[at / 2]);
                line.setCharAt(at % 2, post);
                if (line.charAt(0) != line.charAt(1)) {
                    String[] lines = base.clone();
                    lines[at / 2] = line.toString();
                    Checks.read(used, Checks.tells(4, lines));
                    askAll(used, Checks.drawn(4, lines));
                }
            }
        }
        HandleFaces used = new HandleFaces();
        for (int lines = base.length; lines >= 0; lines--) {
            Checks.read(used, Checks.tells(4, java.util.Arrays.copyOf(base, lines)));
            askAll(used, Checks.drawn(4, java.util.Arrays.copyOf(base, lines)));
        }
    }

    private static void askAll(HandleFaces used, HandleFaces fresh) {
        String look = Checks.look(fresh);
        CHECKS.shows("read", used, look);
        for (int handles = 0; handles <= 2; handles++) {
            CHECKS.due("needing(" + handles + ") of " + look, used.needing(handles), fresh.needing(handles));
        }
        CHECKS.due("all(3) of " + look, used.all(3), fresh.all(3));
        CHECKS.due("bound(1) of " + look, used.bound(1), fresh.bound(1));
        CHECKS.due("count(7) of " + look, used.count(7), fresh.count(7));
        CHECKS.due("capped() of " + look, used.capped(), fresh.capped());
    }

    private static void nothingCanBeUndone() {
        CHECKS.sentence("nothing can be undone");
        HandleFaces x = worked();
        CHECKS.due("read", Checks.read(x, JOINED), 0);
        CHECKS.due("things to undo", x.count(10), 0);
        CHECKS.due("undo", x.undo(), false);
        CHECKS.shows("undo of nothing", x, "01 : 0/0");
        x.twist(0);
        CHECKS.due("undo of one thing", x.undo(), true);
        CHECKS.due("undo of no more", x.undo(), false);
        CHECKS.shows("undone", x, "01 : 0/0");
    }

    private static void slotsHoldNothing() {
        CHECKS.sentence("SLOTS hold nothing");
        HandleFaces x = worked();
        x.hold(1);
        CHECKS.due("slots", x.count(11), 3);
        CHECKS.due("read", Checks.read(x, JOINED), 0);
        CHECKS.due("slots", x.count(11), 0);
        for (int slot = 0; slot < 3; slot++) {
            CHECKS.due("restore(" + slot + ")", x.restore(slot), false);
            CHECKS.due("like(" + slot + ")", x.like(slot), -1);
        }
        CHECKS.shows("restore of nothing", x, "01 : 0/0");
        x.hold(1);
        CHECKS.due("slots", x.count(11), 1);
        CHECKS.due("like(0)", x.like(0), -1);
    }

    private static void newObject() {
        CHECKS.sentence("HandleFaces(): No POSTS.");
        CHECKS.due("NONE", HandleFaces.NONE, -1);
        HandleFaces x = new HandleFaces();
        CHECKS.due("all of it", Checks.lookAtAll(x), ": tape 0 past 0 slots 0 place -1");
        CHECKS.due("face(-1, 0)", x.face(-1, 0), 0);
        CHECKS.due("surface(0)", x.surface(0), 1);
        for (int what = 1; what <= 3; what++) {
            CHECKS.due("surface(" + what + ")", x.surface(what), 0);
        }
        CHECKS.due("all(0)", x.all(0), 1);
        CHECKS.due("colours()", x.colours(), 0);
        CHECKS.due("capped()", x.capped(), 0);
        CHECKS.due("read of the empty tape", x.read(), 0);
        // objects share nothing
        HandleFaces y = new HandleFaces();
        Checks.read(x, JOINED);
        x.hold(0);
        CHECKS.due("another object", Checks.lookAtAll(y), ": tape 0 past 0 slots 0 place -1");
    }

    private static void feed() {
        highestFirst();
        behindTheTape();
        tooMany();
    }

    private static void highestFirst() {
        CHECKS.sentence("Twenty bytes, the highest of a first");
        for (int at = 0; at < 20; at++) {
            for (char sign : new char[] {'!', 255, 128}) {
                byte[] bytes = (blanks(at) + sign + blanks(19 - at)).getBytes(StandardCharsets.ISO_8859_1);
                HandleFaces x = new HandleFaces();
                CHECKS.due("feed", x.feed(Checks.word(bytes, 0), Checks.word(bytes, 4), Checks.word(bytes, 8),
                    Checks.word(bytes, 12), Checks.word(bytes, 16)), 20);
                CHECKS.due("read", x.read(), 1);
                CHECKS.due("place", x.place(), at);
            }
        }
        HandleFaces x = new HandleFaces();
        x.feed(0x706F7374, 0x20613B70, 0x6F737420, 0x623B6C69, 0x6E652062);
        x.feed(0x20613B20, 0x20202020, 0x20202020, 0x20202020, 0x20202020);
        CHECKS.due("read [post a;post b;line b a; ..]", x.read(), 0);
        CHECKS.shows("read", x, "10 : 0/0");
    }

    private static void behindTheTape() {
        CHECKS.sentence("come behind the tape: how many it has");
        HandleFaces x = new HandleFaces();
        CHECKS.due("feed", x.feed(0, 0, 0, 0, 0), 20);
        CHECKS.due("feed", x.feed(LOW, HIGH, -1, LOW, HIGH), 40);
        CHECKS.due("back(39)", x.back(39), 1);
        CHECKS.due("feed", x.feed(0, 0, 0, 0, 0), 21);
        CHECKS.due("count(9)", x.count(9), 21);
        x.read();
        CHECKS.due("feed behind a read", x.feed(0, 0, 0, 0, 0), 20);
    }

    private static void fill(HandleFaces x, int bytes) {
        for (int k = 0; k < bytes; k += 20) {
            x.feed(0x20202020, 0x20202020, 0x20202020, 0x20202020, 0x20202020);
        }
        x.back((20 - bytes % 20) % 20);
    }

    private static void tooMany() {
        CHECKS.sentence("NONE, and nothing comes, if it would have more than 2,000");
        for (int bytes : new int[] {1981, 1990, 1999, 2000}) {
            HandleFaces x = new HandleFaces();
            fill(x, bytes);
            CHECKS.due("on the tape", x.count(9), bytes);
            CHECKS.due("feed", x.feed(-1, -1, -1, -1, -1), -1);
            CHECKS.due("on the tape", x.count(9), bytes);
            CHECKS.due("read", x.read(), 0);
        }
        for (int bytes : new int[] {1979, 1980}) {
            HandleFaces x = new HandleFaces();
            fill(x, bytes);
            CHECKS.due("feed", x.feed(-1, -1, -1, -1, -1), bytes + 20);
            CHECKS.due("read", x.read(), 1);
            CHECKS.due("place", x.place(), bytes);
        }
    }

    private static void back() {
        lastGo();
        notSoMany();
        belowZero();
    }

    private static void lastGo() {
        CHECKS.sentence("The last n bytes of the tape go: how many it has");
        HandleFaces x = new HandleFaces();
        CHECKS.due("back(0) of nothing", x.back(0), 0);
        Checks.type(x, "post a;post b;!!");
        CHECKS.due("back(0)", x.back(0), 16);
        CHECKS.due("back(2)", x.back(2), 14);
        CHECKS.due("read", x.read(), 0);
        CHECKS.due("posts", x.count(0), 2);
        Checks.type(x, "!!!");
        CHECKS.due("back(3), all", x.back(3), 0);
        CHECKS.due("read", x.read(), 0);
        // bytes that went are not there when others come
        Checks.type(x, "post a;!!!!!!");
        CHECKS.due("back(6)", x.back(6), 7);
        CHECKS.due("feed", x.feed(0x706F7374, 0x20623B20, 0x20202020, 0x20202020, 0x20202020), 27);
        CHECKS.due("read", x.read(), 0);
        CHECKS.due("posts", x.count(0), 2);
    }

    private static void notSoMany() {
        CHECKS.sentence("NONE, and nothing goes, if it has not so many");
        HandleFaces x = new HandleFaces();
        CHECKS.due("back(1) of nothing", x.back(1), -1);
        Checks.type(x, "post a;");
        for (int n : new int[] {8, 9, 20, 2000, HIGH}) {
            CHECKS.due("back(" + n + ")", x.back(n), -1);
            CHECKS.due("on the tape", x.count(9), 7);
        }
        CHECKS.due("read", x.read(), 0);
        CHECKS.due("posts", x.count(0), 1);
        CHECKS.due("back(1) behind a read", x.back(1), -1);
    }

    private static void belowZero() {
        CHECKS.sentence("or n is below 0");
        HandleFaces x = new HandleFaces();
        Checks.type(x, "post a;");
        for (int n : new int[] {-1, -7, -20, LOW, -HIGH}) {
            CHECKS.due("back(" + n + ")", x.back(n), -1);
            CHECKS.due("on the tape", x.count(9), 7);
        }
        CHECKS.due("read", x.read(), 0);
    }

    private static void read() {
        CHECKS.sentence("The tape, which is empty then, is read: 0, or the number of its FAULT");
        HandleFaces x = new HandleFaces();
        CHECKS.due("read of an empty tape", x.read(), 0);
        CHECKS.due("read", Checks.read(x, JOINED), 0);
        CHECKS.due("the tape", x.count(9), 0);
        CHECKS.due("read again, an empty text", x.read(), 0);
        CHECKS.due("no posts", x.count(0), 0);
        CHECKS.due("read", Checks.read(x, "post a"), 1);
        CHECKS.due("the tape", x.count(9), 0);
        CHECKS.due("back(1)", x.back(1), -1);
        CHECKS.due("the rest of it is not told", Checks.read(x, ";"), 1);
        CHECKS.due("place", x.place(), 0);
    }

    private static void place() {
        CHECKS.sentence("The byte of the latest read()'s FAULT; NONE without");
        HandleFaces x = new HandleFaces();
        CHECKS.due("new", x.place(), -1);
        x.read();
        CHECKS.due("no fault", x.place(), -1);
        Checks.read(x, "!");
        CHECKS.due("the first byte", x.place(), 0);
        Checks.type(x, "post a;post a;");
        CHECKS.due("of the latest read, not of the tape", x.place(), 0);
        x.read();
        CHECKS.due("a fault of names", x.place(), 12);
        x.twist(0);
        x.hold(0);
        x.restore(0);
        x.undo();
        CHECKS.due("other calls leave it", x.place(), 12);
        Checks.read(x, blanks(1996) + "post");
        CHECKS.due("the end of the longest text", x.place(), 2000);
        x.read();
        CHECKS.due("no fault then", x.place(), -1);
    }
}
