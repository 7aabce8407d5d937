/**
 * Sentences of the document that name a boundary, of what is done by hand, undone and held (promises 6 to 14, 28, 29):
 * each has a test of its own, which tells the sentence if it is broken.
 */
public final class HandEdgeTest {
    private static final Checks CHECKS = new Checks();
    private static final int LOW = Integer.MIN_VALUE;
    private static final int HIGH = Integer.MAX_VALUE;
    private static final int[] BELOW = {-1, -2, -10, LOW, LOW + 1};

    public static void main(String[] args) {
        lay();
        goes();
        twist();
        flip();
        exchange();
        lessen();
        dual();
        shrink();
        undo();
        hold();
        restore();
        lastCall();
        CHECKS.end();
    }

    /** Numbers that are below 0, or not below a limit. */
    private static int[] outside(int limit) {
        int[] out = java.util.Arrays.copyOf(BELOW, BELOW.length + 6);
        int[] above = {limit, limit + 1, limit + 31, 32 + limit, 64, HIGH};
        System.arraycopy(above, 0, out, BELOW.length, above.length);
        return out;
    }

    private static HandleFaces four() {
        return Checks.drawn(4, "ab", "ac", "ad", "bc", "bd", "cd");
    }

    private static void lay() {
        behindTheIth();
        cornersOfABarePost();
        numberedBehindAll();
        thereAreTen();
        noSuchCorners();
        oneAndTheSame();
        laidTwistedOrNot();
    }

    private static void behindTheIth() {
        CHECKS.sentence("a CORNER of a POST: behind the i-th of its ROUND, from 0 on");
        String[] rows = {"0312", "0132", "0123"};
        for (int i = 0; i < 3; i++) {
            HandleFaces x = Checks.drawn(2, "ab", "ab", "ab");
            CHECKS.due("lay", x.lay(0, i, 1, 2, false), 3);
            CHECKS.shows("behind " + i, x, "01 01 01 01 : " + rows[i] + "/0123");
            x.undo();
            CHECKS.due("lay", x.lay(0, 2, 1, i, false), 3);
            CHECKS.shows("behind " + i, x, "01 01 01 01 : 0123/" + rows[i]);
        }
        HandleFaces one = Checks.drawn(2, "ab");
        CHECKS.due("lay", one.lay(0, 0, 1, 0, false), 1);
        CHECKS.shows("behind the only one", one, "01 01 : 01/01");
        HandleFaces x = Checks.drawn("post a;post b;line a b;line a b;round a 1 0;round b 1 0;");
        CHECKS.due("lay", x.lay(1, 0, 0, 1, true), 2);
        CHECKS.shows("by the place, not by the number", x, "01 01 10~ : 102/120");
    }

    private static void cornersOfABarePost() {
        CHECKS.sentence("0 of a POST without LINES");
        for (int i : new int[] {-1, 1, 2, LOW, HIGH}) {
            HandleFaces x = Checks.drawn(2);
            CHECKS.due("lay(0, " + i + ", 1, 0)", x.lay(0, i, 1, 0, false), -1);
            CHECKS.due("lay(0, 0, 1, " + i + ")", x.lay(0, 0, 1, i, false), -1);
        }
        HandleFaces x = Checks.drawn(3);
        CHECKS.due("lay(0, 0, 2, 0)", x.lay(0, 0, 2, 0, false), 0);
        CHECKS.due("lay(1, 0, 2, 0)", x.lay(1, 0, 2, 0, false), 1);
        CHECKS.shows("laid", x, "02 12 : 0/1/01");
        // a post whose last line has gone is one without lines again
        x.goes(0);
        CHECKS.due("lay(0, 1, 1, 0)", x.lay(0, 1, 1, 0, false), -1);
        CHECKS.due("lay(0, 0, 1, 0)", x.lay(0, 0, 1, 0, false), 1);
    }

    private static void numberedBehindAll() {
        CHECKS.sentence("numbered behind all");
        HandleFaces x = Checks.drawn(2);
        for (int k = 0; k < 10; k++) {
            CHECKS.due("lay", x.lay(k & 1, 0, 1 - (k & 1), 0, (k & 2) != 0), k);
        }
        CHECKS.shows("10 laid", x, "01 10 01~ 10~ 01 10 01~ 10~ 01 10 : 0987654321/0987654321");
    }

    private static void refused(HandleFaces x, int a, int i, int b, int j) {
        String before = Checks.lookAtAll(x);
        String call = "lay(" + a + ", " + i + ", " + b + ", " + j + ")";
        CHECKS.due(call, x.lay(a, i, b, j, true), -1);
        CHECKS.due("behind " + call, Checks.lookAtAll(x), before);
    }

    private static void thereAreTen() {
        CHECKS.sentence("NONE, and nothing happens: there are 10");
        HandleFaces x = Checks.drawn(6, Checks.times(10, "ab"));
        refused(x, 0, 0, 1, 0);
        refused(x, 2, 0, 3, 0);
        x.goes(9);
        CHECKS.due("the 10th", x.lay(2, 0, 3, 0, false), 9);
        refused(x, 4, 0, 5, 0);
    }

    private static void noSuchCorners() {
        CHECKS.sentence("no such ones");
        HandleFaces x = Checks.drawn(3, "ab", "ab", "bc");
        x.twist(0);
        for (int wrong : outside(3)) {
            refused(x, wrong, 0, 1, 0);
            refused(x, 0, 0, wrong, 0);
        }
        for (int wrong : outside(2)) {
            refused(x, 0, wrong, 1, 0);
            refused(x, 1, 0, 0, wrong);
        }
        for (int wrong : outside(3)) {
            refused(x, 1, wrong, 0, 0);
            refused(x, 0, 0, 1, wrong);
        }
        refused(x, 2, 1, 0, 0);
        refused(new HandleFaces(), 0, 0, 1, 0);
        CHECKS.due("the greatest corners", x.lay(0, 1, 1, 2, false), 3);
    }

    private static void oneAndTheSame() {
        CHECKS.sentence("one and the same POST");
        HandleFaces x = Checks.drawn(3, "ab", "ab");
        for (int post = 0; post < 3; post++) {
            refused(x, post, 0, post, 0);
        }
        refused(x, 0, 0, 0, 1);
        refused(x, -1, 0, -1, 0);
    }

    private static void laidTwistedOrNot() {
        CHECKS.sentence("a LINE comes between two CORNERS, TWISTED or not");
        HandleFaces x = Checks.drawn(2, "ab~");
        x.lay(0, 0, 1, 0, true);
        x.lay(0, 0, 1, 0, false);
        CHECKS.due("twisted ones", x.count(3), 3);
        // a number that a twisted line had comes again
        x.goes(1);
        x.goes(0);
        x.goes(0);
        x.lay(0, 0, 1, 0, false);
        CHECKS.due("twisted ones", x.count(3), 0);
    }

    private static void goes() {
        CHECKS.sentence("a LINE goes (those behind it get numbers less by 1)");
        HandleFaces x = Checks.drawn(3, "ab~", "bc", "ca~", "ab");
        CHECKS.due("goes(0), the first", x.goes(0), true);
        CHECKS.shows("gone", x, "12 20~ 01 : 12/02/01");
        CHECKS.due("goes(2), the last", x.goes(2), true);
        CHECKS.shows("gone", x, "12 20~ : 1/0/01");
        CHECKS.due("goes(1)", x.goes(1), true);
        CHECKS.due("goes(0), the only one", x.goes(0), true);
        CHECKS.shows("none is left", x, ": //");
        CHECKS.due("faces", x.count(2), 3);
        HandleFaces ten = Checks.drawn(2, Checks.times(10, "ab~"));
        ten.goes(0);
        CHECKS.due("twisted ones of 9", ten.count(3), 511);
        ten.undo();
        ten.twist(9);
        ten.goes(8);
        CHECKS.due("twisted ones of 9", ten.count(3), 255);
        CHECKS.sentence("goes: false: no such one");
        x = four();
        x.twist(1);
        String before = Checks.lookAtAll(x);
        for (int line : outside(6)) {
            CHECKS.due("goes(" + line + ")", x.goes(line), false);
            CHECKS.due("behind goes(" + line + ")", Checks.lookAtAll(x), before);
        }
        CHECKS.due("no lines", Checks.drawn(2).goes(0), false);
        CHECKS.due("no posts", new HandleFaces().goes(0), false);
    }

    private static void twist() {
        CHECKS.sentence("A LINE is TWISTED, or (it was) no more: true");
        HandleFaces x = Checks.drawn(2, Checks.times(10, "ab"));
        for (int line : new int[] {0, 9}) {
            CHECKS.due("twist(" + line + ")", x.twist(line), true);
            CHECKS.due("twisted ones", x.count(3), 1 << line);
            CHECKS.due("twist(" + line + ")", x.twist(line), true);
            CHECKS.due("twisted ones", x.count(3), 0);
        }
        CHECKS.sentence("twist: false: no such one");
        x = four();
        String before = Checks.lookAtAll(x);
        for (int line : outside(6)) {
            CHECKS.due("twist(" + line + ")", x.twist(line), false);
            CHECKS.due("behind twist(" + line + ")", Checks.lookAtAll(x), before);
        }
        CHECKS.due("no lines", Checks.drawn(2).twist(0), false);
    }

    private static void flip() {
        CHECKS.sentence("turning a POST over: its ROUND is the other way round, "
            + "each of its LINES is TWISTED if it was not, else not");
        HandleFaces x = Checks.drawn(6, "ab", "ac~", "ad", "bf", "af");
        CHECKS.due("flip(0)", x.flip(0), true);
        CHECKS.shows("turned over", x, "01~ 02 03~ 15 05~ : 4210/03/1/2//34");
        CHECKS.due("flip(0)", x.flip(0), true);
        CHECKS.shows("turned over again", x, "01 02~ 03 15 05 : 0124/03/1/2//34");
        CHECKS.due("flip(3), one line", x.flip(3), true);
        CHECKS.shows("turned over", x, "01 02~ 03~ 15 05 : 0124/03/1/2//34");
        CHECKS.due("flip(4), a bare post", x.flip(4), true);
        CHECKS.shows("turned over", x, "01 02~ 03~ 15 05 : 0124/03/1/2//34");
        CHECKS.due("flip(5), the last post", x.flip(5), true);
        CHECKS.shows("turned over", x, "01 02~ 03~ 15~ 05~ : 0124/03/1/2//43");
        CHECKS.due("things to undo", x.count(10), 5);
        CHECKS.sentence("flip: false: no such one");
        x = four();
        String before = Checks.lookAtAll(x);
        for (int post : outside(4)) {
            CHECKS.due("flip(" + post + ")", x.flip(post), false);
            CHECKS.due("behind flip(" + post + ")", Checks.lookAtAll(x), before);
        }
        CHECKS.due("no posts", new HandleFaces().flip(0), false);
    }

    private static void exchange() {
        exchangeWraps();
        fewerThanThree();
        noSuchToExchange();
    }

    private static void exchangeWraps() {
        CHECKS.sentence("The i-th and the next one (behind the last the first) of a POST's ROUND are exchanged");
        String[] rows = {"1023", "0213", "0132", "3120"};
        for (int i = 0; i < 4; i++) {
            HandleFaces x = Checks.drawn(2, "ab~", "ab", "ab", "ab");
            CHECKS.due("exchange(1, " + i + ")", x.exchange(1, i), true);
            CHECKS.shows("exchanged", x, "01~ 01 01 01 : 0123/" + rows[i]);
        }
        HandleFaces full = Checks.drawn(2, Checks.times(10, "ab"));
        CHECKS.due("exchange(1, 9)", full.exchange(1, 9), true);
        CHECKS.shows("10 lines", full, "01 ".repeat(10) + ": 0123456789/9123456780");
    }

    private static void fewerThanThree() {
        CHECKS.sentence("false, and nothing happens: fewer than 3 LINES");
        HandleFaces x = Checks.drawn(5, "ab", "ac", "ac", "cb");
        String before = Checks.lookAtAll(x);
        for (int i = -1; i < 3; i++) {
            CHECKS.due("exchange(1, " + i + ") of 2", x.exchange(1, i), false);
            CHECKS.due("exchange(3, " + i + ") of 0", x.exchange(3, i), false);
        }
        CHECKS.due("nothing happens", Checks.lookAtAll(x), before);
        CHECKS.due("exchange(0, 2) of 3", x.exchange(0, 2), true);
        x.goes(0);
        CHECKS.due("exchange(1, 0) of 1", x.exchange(1, 0), false);
        CHECKS.due("exchange(0, 0) of 2", x.exchange(0, 0), false);
        CHECKS.due("things to undo", x.count(10), 2);
    }

    private static void noSuchToExchange() {
        CHECKS.sentence("exchange: false, and nothing happens: no such ones");
        HandleFaces x = four();
        String before = Checks.lookAtAll(x);
        for (int i : outside(3)) {
            CHECKS.due("exchange(0, " + i + ")", x.exchange(0, i), false);
        }
        for (int post : outside(4)) {
            CHECKS.due("exchange(" + post + ", 0)", x.exchange(post, 0), false);
        }
        CHECKS.due("nothing happens", Checks.lookAtAll(x), before);
        CHECKS.due("no posts", new HandleFaces().exchange(0, 0), false);
    }

    private static void lessen() {
        firstOfLeast();
        moreThanTwentyThousand();
    }

    private static void firstOfLeast() {
        CHECKS.sentence("All become the FIRST of ALL ROUNDS of LEAST HANDLES: how many HANDLES");
        HandleFaces x = Checks.drawn(2, "ab~", "ab", "ab");
        CHECKS.due("lessen", x.lessen(), 0);
        CHECKS.shows("no line is twisted", x, "01 01 01 : 012/021");
        CHECKS.due("things to undo", x.count(10), 1);
        CHECKS.due("lessen again", x.lessen(), 0);
        CHECKS.due("it is done, though all stays", x.count(10), 2);
        HandleFaces none = new HandleFaces();
        CHECKS.due("no posts", none.lessen(), 0);
        CHECKS.due("things to undo", none.count(10), 1);
        HandleFaces bare = Checks.drawn(6);
        CHECKS.due("bare posts", bare.lessen(), 0);
        CHECKS.shows("bare posts", bare, ": /////");
        // one that needs a handle: the first of all rounds that needs one only
        HandleFaces three = Checks.drawn(6, "ad", "ae", "af", "bd", "be", "bf", "cd", "ce", "cf");
        long first = three.all(3);
        three.flip(2);
        CHECKS.due("lessen", three.lessen(), 1);
        for (int post = 0; post < 6; post++) {
            for (int i = 0; i < 3; i++) {
                CHECKS.due("as ordered", three.round(post, i), three.ordered((int) first, post, i));
            }
        }
        CHECKS.due("handles", three.surface(1), 1);
        CHECKS.due("twisted ones", three.count(3), 0);
        // each round begins with its least line, though none of them was exchanged
        HandleFaces turned = Checks.drawn("post a;post b;line a b;line a b;round a 1 0;");
        CHECKS.due("lessen", turned.lessen(), 0);
        CHECKS.shows("begun with the least", turned, "01 01 : 01/01");
    }

    private static void moreThanTwentyThousand() {
        CHECKS.sentence("lessen: NONE, and nothing happens: there are more than 20,000 of ALL ROUNDS");
        HandleFaces below = Checks.drawn(3, "ab", "ab", "ab", "ab", "ab", "ac", "ac~");
        CHECKS.due("720 * 24", below.all(0), 17280);
        CHECKS.due("lessen", below.lessen(), 0);
        CHECKS.due("faces", below.count(2), 7 - 3 + 2);
        HandleFaces above = Checks.drawn(4, "ab", "ab", "ab", "ac", "ac", "ac", "ad", "ad~");
        CHECKS.due("5040 * 2 * 2", above.all(0), 20160);
        above.hold(1);
        String before = Checks.lookAtAll(above);
        CHECKS.due("lessen", above.lessen(), -1);
        CHECKS.due("nothing happens", Checks.lookAtAll(above), before);
        CHECKS.due("10 lines", Checks.drawn(2, Checks.times(10, "ab")).lessen(), -1);
    }

    private static void dual() {
        unlikeFaces();
        sixFaces();
        noBarePost();
        fromTheLesser();
        twistedIfTheSameWay();
    }

    private static void noDual(HandleFaces x, String call) {
        String before = Checks.lookAtAll(x);
        CHECKS.due(call, x.dual(), -1);
        CHECKS.due("behind " + call, Checks.lookAtAll(x), before);
    }

    private static void unlikeFaces() {
        CHECKS.sentence("DUAL (if each LINE has two unlike FACES on its sides");
        noDual(Checks.drawn(2, "ab"), "one line");
        noDual(Checks.drawn(4, "ab", "bc", "ca", "cd"), "a triangle and a bridge");
        noDual(Checks.drawn(2, "ab", "ab", "ab"), "a handle with one face");
        noDual(Checks.drawn(2, "ab", "ab~"), "a cap with one face");
        HandleFaces x = Checks.drawn(2, "ab", "ab");
        CHECKS.due("two lines", x.dual(), 2);
        CHECKS.shows("two lines", x, "01 01 : 01/01");
    }

    private static void sixFaces() {
        CHECKS.sentence("6 FACES at most");
        HandleFaces seven = Checks.drawn("post a;post b;" + "line a b;".repeat(7) + "round b 6 5 4 3 2 1 0;");
        CHECKS.due("faces", seven.count(2), 7);
        noDual(seven, "7 faces");
        HandleFaces six = Checks.drawn("post a;post b;" + "line a b;".repeat(6) + "round b 5 4 3 2 1 0;");
        CHECKS.due("6 faces", six.dual(), 6);
        // from a along i to b, where i - 1 stands behind: faces 0 5, 0 1, 1 2, 2 3, 3 4, 4 5
        CHECKS.shows("a ring of 6", six, "01 12 23 34 45 05 : 05/01/12/23/34/45");
        CHECKS.due("back again", six.dual(), 2);
    }

    private static void noBarePost() {
        CHECKS.sentence("no POST without LINES)");
        noDual(Checks.drawn(3, "ab", "ab"), "a bare post");
        noDual(Checks.drawn(1), "one bare post");
        HandleFaces none = new HandleFaces();
        CHECKS.due("no posts", none.dual(), 0);
        CHECKS.due("things to undo", none.count(10), 1);
        HandleFaces parts = Checks.drawn(6, "ab", "ab", "cd", "cd", "ef", "ef");
        CHECKS.due("three parts", parts.dual(), 6);
        CHECKS.shows("three parts", parts, "01 01 23 23 45 45 : 01/01/23/23/45/45");
    }

    private static void fromTheLesser() {
        CHECKS.sentence("LINES lead from the FACE of the lesser number on their sides to the other one");
        HandleFaces x = Checks.drawn(3, "ba", "cb", "ac");
        CHECKS.due("dual", x.dual(), 2);
        // b0 to a, where 2 is behind, to c, where 1 is; a0 to b, where 1 is behind, to c, where 2 is
        CHECKS.shows("all from face 0", x, "01 01 01 : 021/012");
    }

    private static void twistedIfTheSameWay() {
        CHECKS.sentence("a LINE is TWISTED if both of its FACES' WALKS go along it the same way");
        // two rings that do not turn cross one another at b. Face 0: a0 and b2 forth, c3 forth, b1 back; face 1: b0 and
        // a1 forth, b2 back, c3 back: both go along 2 from b, along 3 from c, but 0 and 1 each its own way
        HandleFaces x = Checks.drawn(Checks.tells(3, "ab", "ab~", "bc", "bc~") + "round b 0 2 1 3;");
        CHECKS.due("walk", Checks.walk(x, 0), "0231");
        CHECKS.due("walk", Checks.walk(x, 1), "0123");
        CHECKS.due("dual", x.dual(), 2);
        CHECKS.shows("dual", x, "01 01 01~ 01~ : 0231/0123");
        CHECKS.due("faces of the dual", x.count(2), 3);
        CHECKS.due("caps of the dual", x.surface(0) * 10 + x.surface(1), 1);
        // no walk turns where none is twisted, so none of the dual is
        HandleFaces ring = Checks.drawn(3, "ab", "bc", "ca");
        CHECKS.due("dual", ring.dual(), 2);
        CHECKS.due("twisted ones", ring.count(3), 0);
        // one post turned over: face 0 forth from a along 0, back from b along 1; face 1 forth from a along 1, back
        // from b along 0
        HandleFaces plane = Checks.drawn(2, "ab", "ab");
        plane.flip(1);
        CHECKS.due("dual of one turned over", plane.dual(), 2);
        CHECKS.shows("dual of one turned over", plane, "01 01 : 01/10");
    }

    private static void shrink() {
        secondGoes();
        turnedOverFirst();
        noSuchToShrink();
        anotherJoinsTheSame();
    }

    private static void secondGoes() {
        CHECKS.sentence("its LINES but this one stand, from behind it round, in its place in the first POST's ROUND");
        String text = Checks.tells(6, "ab", "ac", "ad", "be", "bf", "bc");
        // b has 0 3 4 5; from behind line 0 round: 3 4 5
        HandleFaces x = Checks.drawn(text + "round a 1 0 2;");
        CHECKS.due("shrink(0)", x.shrink(0), true);
        CHECKS.shows("in the middle", x, "01 02 03 04 01 : 02341/04/1/2/3");
        x = Checks.drawn(text + "round a 1 2 0;round b 4 0 5 3;");
        CHECKS.due("shrink(0)", x.shrink(0), true);
        CHECKS.shows("the last, and round", x, "01 02 03 04 01 : 01423/04/1/2/3");
        x = Checks.drawn(text + "round a 0 1 2;round b 5 4 3 0;");
        CHECKS.due("shrink(0)", x.shrink(0), true);
        CHECKS.shows("the first", x, "01 02 03 04 01 : 43201/04/1/2/3");
        x = Checks.drawn(text);
        CHECKS.due("shrink(4), the second has no other", x.shrink(4), true);
        CHECKS.shows("taken away alone", x, "01 02 03 14 12 : 012/034/14/2/3");
        HandleFaces last = Checks.drawn(2, "ba");
        CHECKS.due("the only line", last.shrink(0), true);
        CHECKS.shows("one bare post", last, ": ");
        CHECKS.sentence("POSTS, LINES behind get numbers less by 1");
        HandleFaces first = Checks.drawn(3, "cb", "ba", "ca");
        CHECKS.due("shrink(1), the second is post 0", first.shrink(1), true);
        CHECKS.shows("numbers less by 1", first, "10 10 : 01/01");
    }

    private static void turnedOverFirst() {
        CHECKS.sentence("its second POST (turned over first, if the LINE is TWISTED) goes");
        HandleFaces x = Checks.drawn(5, "ab~", "bc", "bd~", "be", "ae");
        CHECKS.due("shrink(0)", x.shrink(0), true);
        CHECKS.shows("turned over", x, "01~ 02 03~ 03 : 2103/0/1/23");
        HandleFaces y = Checks.drawn(5, "ab", "bc", "bd~", "be", "ae");
        CHECKS.due("shrink(0)", y.shrink(0), true);
        CHECKS.shows("not turned over", y, "01 02~ 03 03 : 0123/0/1/23");
    }

    private static void noSuchToShrink() {
        CHECKS.sentence("shrink: false, and nothing happens: no such one");
        HandleFaces x = four();
        x.twist(2);
        String before = Checks.lookAtAll(x);
        for (int line : outside(6)) {
            CHECKS.due("shrink(" + line + ")", x.shrink(line), false);
            CHECKS.due("behind shrink(" + line + ")", Checks.lookAtAll(x), before);
        }
        CHECKS.due("no lines", Checks.drawn(2).shrink(0), false);
        CHECKS.due("the last line", x.shrink(5), true);
    }

    private static void anotherJoinsTheSame() {
        CHECKS.sentence("another one joins the same two POSTS");
        HandleFaces x = Checks.drawn(3, "ab", "bc", "ba", "ca");
        String before = Checks.lookAtAll(x);
        CHECKS.due("shrink(0)", x.shrink(0), false);
        CHECKS.due("shrink(2)", x.shrink(2), false);
        CHECKS.due("nothing happens", Checks.lookAtAll(x), before);
        CHECKS.due("shrink(1)", x.shrink(1), true);
        CHECKS.due("two of the same way", Checks.drawn(2, "ab", "ab~").shrink(1), false);
        x.undo();
        x.goes(2);
        CHECKS.due("when the other one has gone", x.shrink(0), true);
    }

    private static void undo() {
        lastThingDone();
        everyThingByHand();
        noneToUndo();
        lastForty();
    }

    private static void lastThingDone() {
        CHECKS.sentence("The last thing done by hand is undone: true");
        HandleFaces x = Checks.drawn(2, "ab");
        x.lay(0, 0, 1, 0, false);
        x.twist(0);
        x.twist(1);
        x.undo();
        CHECKS.shows("one undone", x, "01~ 01 : 01/01");
        x.flip(0);
        x.undo();
        CHECKS.shows("one done and undone", x, "01~ 01 : 01/01");
        x.undo();
        x.undo();
        CHECKS.shows("all undone", x, "01 : 0/0");
        CHECKS.due("faces", x.count(2), 1);
        CHECKS.due("no more", x.undo(), false);
    }

    /** All walks, and which lines are twisted. */
    private static String faces(HandleFaces x) {
        StringBuilder out = new StringBuilder();
        for (int face = 0; face < x.count(2); face++) {
            out.append(Checks.walk(x, face)).append('/');
        }
        return out.append(x.count(3)).append('/').append(x.count(4)).toString();
    }

    /** Each of the eight things, alone. */
    private static void everyThingByHand() {
        CHECKS.sentence("all undone");
        String text = Checks.tells(4, "ab", "ac", "ad~", "bc", "bd", "cd") + "round a 2 0 1;round b 0 4 3;round d 2 5 4;";
        for (int thing = 0; thing < 8; thing++) {
            HandleFaces x = Checks.drawn(text);
            x.hold(0);
            x.twist(2);
            String before = Checks.look(x);
            String faces = faces(x);
            boolean done = false;
            switch (thing) {
                case 0 -> done = x.lay(0, 2, 3, 1, true) == 6;
                case 1 -> done = x.goes(2);
                case 2 -> done = x.twist(5);
                case 3 -> done = x.flip(3);
                case 4 -> done = x.exchange(2, 2);
                case 5 -> done = x.lessen() == 0;
                case 6 -> done = x.dual() == 4;
                default -> done = x.shrink(2);
            }
            CHECKS.due("thing " + thing + " is done", done, true);
            CHECKS.due("thing " + thing + " changes", Checks.look(x).equals(before), false);
            // faces asked for ahead of undo() must not be told behind it
            CHECKS.due("thing " + thing + " has faces", faces(x).isEmpty(), false);
            CHECKS.due("things to undo", x.count(10), 2);
            CHECKS.due("undo", x.undo(), true);
            CHECKS.shows("thing " + thing + " undone", x, before);
            CHECKS.due("faces", faces(x), faces);
            CHECKS.due("things to undo", x.count(10), 1);
            CHECKS.due("slots", x.count(11), 1);
        }
    }

    private static void noneToUndo() {
        CHECKS.sentence("undo: false: there is none");
        HandleFaces x = new HandleFaces();
        CHECKS.due("new", x.undo(), false);
        Checks.read(x, Checks.tells(2, "ab", "ab"));
        CHECKS.due("behind a text", x.undo(), false);
        x.hold(0);
        x.all(1);
        x.without(0, 0);
        CHECKS.due("what is asked or held is not done by hand", x.undo(), false);
        x.goes(7);
        x.twist(7);
        x.flip(7);
        x.exchange(0, 0);
        x.shrink(0);
        x.lay(0, 0, 0, 0, false);
        CHECKS.due("what is refused is not done", x.undo(), false);
        CHECKS.due("things to undo", x.count(10), 0);
        CHECKS.shows("nothing happens", x, "01 01 : 01/01");
    }

    private static void lastForty() {
        CHECKS.sentence("(the last 40 can be)");
        for (int done : new int[] {39, 40, 41, 79, 80, 81, 100}) {
            HandleFaces x = Checks.drawn(2, Checks.times(3, "ab"));
            String kept = "";
            for (int k = 0; k < done; k++) {
                if (k == Math.max(0, done - 40)) {
                    kept = Checks.look(x);
                }
                CHECKS.due("exchange", x.exchange(k & 1, k % 3), true);
            }
            int most = Math.min(done, 40);
            for (int k = most; k > 0; k--) {
                CHECKS.due("things to undo", x.count(10), k);
                CHECKS.due("undo", x.undo(), true);
            }
            CHECKS.due("things to undo", x.count(10), 0);
            CHECKS.shows(done + " done, " + most + " undone", x, kept);
            CHECKS.due("undo", x.undo(), false);
            CHECKS.shows("nothing more undone", x, kept);
        }
    }

    private static void hold() {
        threeSlots();
        noSuchSlot();
    }

    private static void threeSlots() {
        CHECKS.sentence("All is held in a SLOT (0 .. 2): true");
        HandleFaces x = Checks.drawn(2, "ab");
        for (int slot = 0; slot < 3; slot++) {
            CHECKS.due("hold(" + slot + ")", x.hold(slot), true);
            CHECKS.due("slots", x.count(11), slot + 1);
            CHECKS.due("things to undo", x.count(10), slot);
            x.lay(0, 0, 1, 0, slot == 1);
        }
        String[] held = {"01 : 0/0", "01 01 : 01/01", "01 01 01~ : 021/021"};
        for (int slot = 2; slot >= 0; slot--) {
            CHECKS.due("restore(" + slot + ")", x.restore(slot), true);
            CHECKS.shows("slot " + slot, x, held[slot]);
        }
        CHECKS.due("hold over another", x.hold(2), true);
        CHECKS.due("slots", x.count(11), 3);
        x.twist(0);
        x.restore(2);
        CHECKS.shows("slot 2", x, held[0]);
        x.restore(1);
        CHECKS.shows("slot 1 as it was", x, held[1]);
        HandleFaces none = new HandleFaces();
        CHECKS.due("hold of no posts", none.hold(0), true);
        CHECKS.due("slots", none.count(11), 1);
        CHECKS.due("restore of no posts", none.restore(0), true);
    }

    private static void noSuchSlot() {
        CHECKS.sentence("hold: false: no such one");
        HandleFaces x = Checks.drawn(2, "ab");
        x.twist(0);
        String before = Checks.lookAtAll(x);
        for (int slot : outside(3)) {
            CHECKS.due("hold(" + slot + ")", x.hold(slot), false);
            CHECKS.due("behind hold(" + slot + ")", Checks.lookAtAll(x), before);
        }
    }

    private static void restore() {
        CHECKS.sentence("(it stays there; nothing can be undone then)");
        HandleFaces x = Checks.drawn(2, "ab", "ab");
        x.twist(1);
        x.hold(1);
        x.goes(1);
        x.lay(0, 0, 1, 0, false);
        CHECKS.due("faces", x.count(2), 2);
        CHECKS.due("restore(1)", x.restore(1), true);
        CHECKS.due("things to undo", x.count(10), 0);
        CHECKS.due("undo", x.undo(), false);
        CHECKS.shows("restored", x, "01 01~ : 01/01");
        CHECKS.due("faces", x.count(2), 1);
        x.twist(1);
        CHECKS.due("what is done then can be undone", x.undo(), true);
        CHECKS.due("no more", x.undo(), false);
        x.twist(1);
        CHECKS.due("restore(1) again", x.restore(1), true);
        CHECKS.shows("it stayed there", x, "01 01~ : 01/01");
        CHECKS.due("slots", x.count(11), 1);
        CHECKS.sentence("restore: false, and nothing happens: no such one, it holds nothing");
        x.flip(0);
        String before = Checks.lookAtAll(x);
        for (int slot : outside(3)) {
            CHECKS.due("restore(" + slot + ")", x.restore(slot), false);
        }
        CHECKS.due("restore(0) of nothing", x.restore(0), false);
        CHECKS.due("restore(2) of nothing", x.restore(2), false);
        CHECKS.due("nothing happens", Checks.lookAtAll(x), before);
        CHECKS.due("undo", x.undo(), true);
        CHECKS.due("a new object", new HandleFaces().restore(0), false);
    }

    private static void lastCall() {
        CHECKS.sentence("An object is used for at most 512 calls after it has been made");
        HandleFaces x = Checks.drawn(2, "ab", "ab");
        // two times feed, one of back and read: 4 calls, then 507 more
        CHECKS.due("the text takes 2 feeds", Checks.tells(2, "ab", "ab").length(), 32);
        for (int k = 0; k < 507; k++) {
            CHECKS.due("twist", x.twist(k & 1), true);
        }
        CHECKS.due("the 512th call", x.count(3), 2);
    }
}
