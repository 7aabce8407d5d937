/** Promises 15 to 27 and 30: what is told of a drawing, with networks whose numbers are known. */
public final class AnswerTest {
    private static final Checks CHECKS = new Checks();
    private static final int LOW = Integer.MIN_VALUE;
    private static final int HIGH = Integer.MAX_VALUE;
    private static final String POSTS_4 = "post a;post b;post c;post d;";
    private static final String POSTS_5 = POSTS_4 + "post e;";
    private static final String POSTS_6 = POSTS_5 + "post f;";
    private static final String TRIANGLE = "post a;post b;post c;line a b;line b c;line c a;";
    private static final String FOUR = POSTS_4 + "line a b;line a c;line a d;line b c;line b d;line c d;";
    private static final String PLANE_FOUR = FOUR + "round b 0 4 3;round d 2 5 4;";
    private static final String FIVE = POSTS_5 + "line a b;line a c;line a d;line a e;line b c;line b d;line b e;"
        + "line c d;line c e;line d e;";
    private static final String THREE_THREE = POSTS_6 + "line a d;line a e;line a f;line b d;line b e;line b f;"
        + "line c d;line c e;line c f;";

    public static void main(String[] args) {
        lineAndRound();
        face();
        surface();
        allRounds();
        ordered();
        capped();
        bound();
        without();
        besideAndColours();
        like();
        count();
        straight();
        CHECKS.end();
    }

    private static void lineAndRound() {
        HandleFaces x = Checks.drawn("post a;post b;post c;line b a;line b c twisted;line a b;round b 2 0 1;");
        CHECKS.due("first post", x.line(0, 0), 1);
        CHECKS.due("second post", x.line(0, 1), 0);
        CHECKS.due("twisted", x.line(0, 2), 0);
        CHECKS.due("twisted", x.line(1, 2), 1);
        CHECKS.due("lesser face", x.line(0, 3), 0);
        CHECKS.due("greater face", x.line(0, 4), 1);
        CHECKS.due("lesser face of a bridge", x.line(1, 3), x.line(1, 4));
        for (int what : new int[] {-1, 5, LOW, HIGH}) {
            CHECKS.due("line(0, " + what + ")", x.line(0, what), -1);
        }
        for (int line : new int[] {-1, 3, LOW, HIGH}) {
            CHECKS.due("line(" + line + ", 0)", x.line(line, 0), -1);
            CHECKS.due("line(" + line + ", 3)", x.line(line, 3), -1);
        }
        CHECKS.due("round(1, -1)", x.round(1, -1), 3);
        CHECKS.due("round(1, 0)", x.round(1, 0), 2);
        CHECKS.due("round(1, 2)", x.round(1, 2), 1);
        CHECKS.due("round(1, 3)", x.round(1, 3), -1);
        CHECKS.due("round(1, -2)", x.round(1, -2), -1);
        CHECKS.due("round(3, -1)", x.round(3, -1), -1);
        CHECKS.due("round(-1, -1)", x.round(-1, -1), -1);
        CHECKS.due("round(low, high)", x.round(LOW, HIGH), -1);
    }

    private static void walk(HandleFaces x, int face, String lines) {
        StringBuilder walk = new StringBuilder();
        for (int i = 0; i < x.face(face, -1); i++) {
            walk.append(x.face(face, i));
        }
        CHECKS.due("face " + face + " is " + walk + ", not " + lines, walk.toString().equals(lines), true);
        CHECKS.due("behind face " + face, x.face(face, lines.length()), -1);
    }

    private static void face() {
        HandleFaces x = Checks.drawn(PLANE_FOUR);
        CHECKS.due("faces", x.face(-1, HIGH), 4);
        // from a along line 0 to b, where 4 is behind it, to d, where 2 is behind it
        walk(x, 0, "042");
        CHECKS.due("face(4, -1)", x.face(4, -1), -1);
        CHECKS.due("face(-2, -1)", x.face(-2, -1), -1);
        CHECKS.due("face(0, -2)", x.face(0, -2), -1);
        CHECKS.due("face(low, 0)", x.face(LOW, 0), -1);
        HandleFaces path = Checks.drawn("post a;post b;post c;post d;line c b;line a b;");
        CHECKS.due("faces", path.face(-1, 0), 2);
        // from b of line 0 at c, along to b, on to line 1, to a, line 1 again, to b, line 0
        walk(path, 0, "0110");
        walk(path, 1, "");
        CHECKS.due("face of a bare post", path.face(1, -1), 0);
        HandleFaces twisted = Checks.drawn("post a;post b;line a b;line a b;line a b twisted;");
        // a0 forth, b1 forth, a2 forth, b back: line 1, a back: line 0, b back: line 2, a forth: line 0
        walk(twisted, 0, "012102");
        CHECKS.due("faces", twisted.face(-1, 0), 1);
    }

    private static void surface() {
        HandleFaces x = Checks.drawn(TRIANGLE);
        CHECKS.due("turns right", x.surface(0), 1);
        CHECKS.due("handles", x.surface(1), 0);
        CHECKS.due("euler", x.surface(2), 2);
        CHECKS.due("parts", x.surface(3), 1);
        for (int what : new int[] {-1, 4, LOW, HIGH}) {
            CHECKS.due("surface(" + what + ")", x.surface(what), -100000);
        }
        x.twist(1);
        CHECKS.due("turns right", x.surface(0), 0);
        CHECKS.due("caps", x.surface(1), 1);
        x.twist(0);
        CHECKS.due("two twists turn right", x.surface(0), 1);
        CHECKS.due("handles", x.surface(1), 0);
        HandleFaces parts = Checks.drawn(POSTS_6 + "line a b;line a b;line a b;line c d;line c d twisted;");
        CHECKS.due("turns right", parts.surface(0), 0);
        CHECKS.due("parts", parts.surface(3), 4);
        CHECKS.due("euler", parts.surface(2), 6 - 5 + 1 + 1 + 2);
        CHECKS.due("caps", parts.surface(1), 8 - 5 + 0);
        parts.twist(4);
        CHECKS.due("turns right", parts.surface(0), 1);
        CHECKS.due("handles", parts.surface(1), 1);
        // parts whose posts stand between one another, all turned right by turning some posts over
        CHECKS.due("turns right", Checks.drawn(POSTS_6 + "line a c;line c e;line b d twisted;").surface(0), 1);
        CHECKS.due("turns right", Checks.drawn(POSTS_6 + "line f d twisted;line b d;line b f twisted;line e a twisted;"
            + "line a c twisted;line c e;").surface(0), 1);
        CHECKS.due("turns right", Checks.drawn(POSTS_6 + "line f d twisted;line b d;line b f;line e a;").surface(0), 0);
        HandleFaces klein = Checks.drawn("post a;post b;line a b;line a b twisted;line a b;round b 0 2 1;");
        CHECKS.due("turns right", klein.surface(0), 0);
        CHECKS.due("caps", klein.surface(1), 4 - 2 - klein.surface(2));
    }

    private static void needs(String name, HandleFaces x, int... needs) {
        long sum = 0;
        for (int handles = 0; handles < needs.length; handles++) {
            CHECKS.due(name + ": needing(" + handles + ")", x.needing(handles), needs[handles]);
            sum += needs[handles];
        }
        CHECKS.due(name + ": needing more", x.needing(needs.length), 0);
        CHECKS.due(name + ": all(0)", x.all(0), sum);
        for (int handles : new int[] {-1, 6, 7, 31, 32, LOW, HIGH}) {
            CHECKS.due(name + ": needing(" + handles + ")", x.needing(handles), 0);
        }
    }

    private static void allRounds() {
        HandleFaces five = Checks.drawn(FIVE);
        needs("K5", five, 0, 462, 4974, 2340);
        CHECKS.due("K5: least", five.all(1), 1);
        CHECKS.due("K5: most", five.all(2), 3);
        HandleFaces three = Checks.drawn(THREE_THREE);
        needs("K3,3", three, 0, 40, 24);
        CHECKS.due("K3,3: most", three.all(2), 2);
        needs("three lines", Checks.drawn("post a;post b;line a b;line a b;line a b;"), 2, 2);
        needs("four lines", Checks.drawn("post a;post b;" + "line a b;".repeat(4)), 6, 30);
        needs("five lines", Checks.drawn("post a;post b;" + "line a b;".repeat(5)), 24, 360, 192);
        needs("three and three lines", Checks.drawn(POSTS_4 + "line a b;line a b;line a b;line c d;line d c;line c d;"),
            4, 8, 4);
        needs("bare posts", Checks.drawn(POSTS_6), 1);
        // twisted lines and rounds told do not count
        HandleFaces x = Checks.drawn(FOUR + "round a 2 1 0;");
        x.twist(3);
        needs("K4", x, 2, 14);
        CHECKS.due("K4: first", x.all(3), 5);
        for (int what : new int[] {-1, 4, LOW, HIGH}) {
            CHECKS.due("all(" + what + ")", x.all(what), -1);
        }
        x.goes(0);
        CHECKS.due("another network: all(0)", x.all(0), 4);
        CHECKS.due("another network: most", x.all(2), 1);
        x.undo();
        CHECKS.due("the one ahead: most", x.needing(1), 14);
        // networks that differ by one end of one line are not taken for one another
        String rest = "post a;post b;post c;line c b;line a b;line a b;line c b;";
        HandleFaces change = Checks.drawn(rest);
        needs("an end", change, 4, 2);
        Checks.read(change, rest.replaceFirst("line c", "line a"));
        needs("another end", change, 6, 6);
        Checks.read(change, rest.replaceFirst("line c b;line", "line b c;line"));
        needs("the other way", change, 4, 2);
        HandleFaces wide = Checks.drawn("post a;post b;" + "line a b;".repeat(10));
        CHECKS.due("all(0)", wide.all(0), 362880L * 362880L);
        for (int what = 1; what <= 3; what++) {
            CHECKS.due("all(" + what + ")", wide.all(what), -2);
        }
        CHECKS.due("all(4)", wide.all(4), -1);
        CHECKS.due("needing(0)", wide.needing(0), -2);
        CHECKS.due("needing(-1)", wide.needing(-1), -2);
    }

    private static void ordered() {
        HandleFaces x = Checks.drawn(POSTS_4 + "line b a;line a c;line a d;line b a;line b c;round a 3 2 1 0;");
        CHECKS.due("all(0)", x.all(0), 12);
        String[] rows = {"0123", "0132", "0213", "0231", "0312", "0321"};
        for (int n = 0; n < 12; n++) {
            for (int i = 0; i < 4; i++) {
                CHECKS.due("ordered(" + n + ", 0, " + i + ")", x.ordered(n, 0, i), rows[n / 2].charAt(i) - '0');
            }
            CHECKS.due("ordered(" + n + ", 1, 1)", x.ordered(n, 1, 1), n % 2 == 0 ? 3 : 4);
            CHECKS.due("ordered(" + n + ", 2, 0)", x.ordered(n, 2, 0), 1);
            CHECKS.due("ordered(" + n + ", 2, 1)", x.ordered(n, 2, 1), 4);
        }
        CHECKS.due("ordered(12, 0, 0)", x.ordered(12, 0, 0), -1);
        CHECKS.due("ordered(-1, 0, 0)", x.ordered(-1, 0, 0), -1);
        CHECKS.due("ordered(0, 4, 0)", x.ordered(0, 4, 0), -1);
        CHECKS.due("ordered(0, -1, 0)", x.ordered(0, -1, 0), -1);
        CHECKS.due("ordered(0, 0, 4)", x.ordered(0, 0, 4), -1);
        CHECKS.due("ordered(0, 0, -1)", x.ordered(0, 0, -1), -1);
        HandleFaces wide = Checks.drawn("post a;post b;" + "line a b;".repeat(10));
        CHECKS.due("ordered(high, 1, 9)", wide.ordered(HIGH, 1, 0), 0);
        // 2147483647 = 5917 times 362880 and 322687
        CHECKS.due("ordered(high, 1, 1)", wide.ordered(HIGH, 1, 1), 1 + 322687 / 40320);
        CHECKS.due("ordered(high, 0, 1)", wide.ordered(HIGH, 0, 1), 1);
        // 5917 = 1 times 5040 and 877, which is 1 times 720 and 157
        CHECKS.due("ordered(high, 0, 2)", wide.ordered(HIGH, 0, 2), 3);
        CHECKS.due("ordered(high, 0, 3)", wide.ordered(HIGH, 0, 3), 4);
    }

    private static void capped() {
        CHECKS.due("K3,3", Checks.drawn(THREE_THREE).capped(), 1);
        CHECKS.due("K4", Checks.drawn(FOUR).capped(), 0);
        CHECKS.due("K5: too many", Checks.drawn(FIVE).capped(), -2);
        CHECKS.due("bare posts", Checks.drawn(POSTS_6).capped(), 0);
        // 6 * 6 * 2 * 2 * 2 * 2 = 576 of all rounds, 10 lines but 5: 18,432 ways
        HandleFaces x = Checks.drawn(THREE_THREE + "line a b;");
        CHECKS.due("all(0)", x.all(0), 576);
        CHECKS.due("K3,3 and a line", x.capped(), 1);
        CHECKS.due("again", x.capped(), 1);
        x.goes(9);
        x.lay(0, 0, 3, 0, false);
        CHECKS.due("K3,3 and a line twice", x.capped(), 1);
        // 24 * 24 * 2 to the 4th: 9,216 ways; 120 * 120 * 32: too many
        CHECKS.due("five lines", Checks.drawn("post a;post b;" + "line a b;".repeat(5)).capped(), 0);
        HandleFaces six = Checks.drawn("post a;post b;" + "line a b;".repeat(6));
        CHECKS.due("six lines", six.capped(), -2);
        CHECKS.due("six lines: all(1)", six.all(1), 0);
        // two parts: one line more for each may be twisted
        HandleFaces parts = Checks.drawn(POSTS_4 + "line a b;line a b;line a b;line a b;line c d;line c d;line c d;");
        CHECKS.due("36 * 4 * 32 ways", parts.capped(), 0);
        parts.lay(2, 0, 3, 0, false);
        CHECKS.due("36 * 36 * 64 ways", parts.capped(), -2);
    }

    private static void bound() {
        HandleFaces x = Checks.drawn(THREE_THREE);
        CHECKS.due("K3,3: bound", x.bound(0), 1);
        CHECKS.due("K3,3: girth", x.bound(1), 4);
        for (int what : new int[] {-1, 2, LOW, HIGH}) {
            CHECKS.due("bound(" + what + ")", x.bound(what), -1);
        }
        CHECKS.due("K5: bound", Checks.drawn(FIVE).bound(0), 1);
        CHECKS.due("K5: girth", Checks.drawn(FIVE).bound(1), 3);
        HandleFaces tree = Checks.drawn(POSTS_4 + "line a b;line a c;line a d;");
        CHECKS.due("a tree: bound", tree.bound(0), 0);
        CHECKS.due("a tree: girth", tree.bound(1), -2);
        HandleFaces parts = Checks.drawn(POSTS_6 + "line a b;line b c;line c d;line d a;");
        CHECKS.due("parts: bound", parts.bound(0), 0);
        CHECKS.due("parts: girth", parts.bound(1), 4);
        HandleFaces six = Checks.drawn(POSTS_6 + "line a b;line b c;line c d;line d e;line e f;line f a;");
        CHECKS.due("girth 6", six.bound(1), 6);
        six.lay(0, 0, 3, 0, false);
        CHECKS.due("girth 4", six.bound(1), 4);
        six.lay(3, 0, 2, 0, false);
        CHECKS.due("girth 2", six.bound(1), 2);
    }

    private static void without() {
        HandleFaces x = Checks.drawn("post a;post b;post c;line a b;line b c;line b c;");
        CHECKS.due("faces", x.without(0, 0), 3);
        CHECKS.due("parts", x.without(0, 1), 2);
        CHECKS.due("euler", x.without(0, 2), 4);
        CHECKS.due("faces", x.without(2, 0), 1);
        CHECKS.due("parts", x.without(2, 1), 1);
        CHECKS.due("euler", x.without(2, 2), 2);
        for (int wrong : new int[] {-1, 3, LOW, HIGH}) {
            CHECKS.due("without(" + wrong + ", 0)", x.without(wrong, 0), -100000);
            CHECKS.due("without(0, " + wrong + ")", x.without(0, wrong), -100000);
        }
        CHECKS.due("nothing happens", x.count(1) * 10 + x.count(10), 30);
        CHECKS.due("faces", x.count(2), 2);
    }

    private static void besideAndColours() {
        HandleFaces x = Checks.drawn("post a;post b;post c;" + "line a b;".repeat(5) + "round b 4 3 2 1 0;");
        CHECKS.due("faces", x.count(2), 6);
        int sum = 0;
        for (int face = 0; face < 5; face++) {
            CHECKS.due("two beside", Integer.bitCount(x.beside(face)), 2);
            sum |= x.beside(face);
        }
        CHECKS.due("all five", sum, 31);
        CHECKS.due("beside the face of a bare post", x.beside(5), 0);
        for (int face : new int[] {-1, 6, LOW, HIGH}) {
            CHECKS.due("beside(" + face + ")", x.beside(face), -1);
        }
        CHECKS.due("colours of a ring of five", x.colours(), 3);
        x.goes(0);
        CHECKS.due("colours of a ring of four", x.colours(), 2);
        CHECKS.due("colours of bare posts", Checks.drawn(POSTS_6).colours(), 1);
        CHECKS.due("colours with a bridge", Checks.drawn("post a;post b;line a b;").colours(), -2);
        CHECKS.due("a bridge is beside itself", Checks.drawn("post a;post b;line a b;").beside(0), 1);
        CHECKS.due("colours of K4 in the plane", Checks.drawn(PLANE_FOUR).colours(), 4);
        HandleFaces five = Checks.drawn(FIVE);
        five.lessen();
        CHECKS.due("K5 with one handle: faces", five.count(2), 5);
    }

    private static void like() {
        HandleFaces x = Checks.drawn(PLANE_FOUR);
        CHECKS.due("like(-1)", x.like(-1), -1);
        CHECKS.due("like(3)", x.like(3), -1);
        CHECKS.due("like(0) of nothing", x.like(0), -1);
        x.hold(0);
        CHECKS.due("like itself", x.like(0), 24);
        x.flip(1);
        CHECKS.due("like one turned over", x.like(0), 24);
        x.dual();
        CHECKS.due("like its dual", x.like(0), 24);
        x.exchange(0, 0);
        CHECKS.due("not like another order", x.like(0), 0);
        x.goes(0);
        CHECKS.due("not like fewer lines", x.like(0), 0);
        for (int k = 0; k < 5; k++) {
            x.goes(0);
        }
        CHECKS.due("no line", x.like(0), -2);
        x.hold(1);
        CHECKS.due("neither", x.like(1), -2);
        x.restore(0);
        CHECKS.due("no line there", x.like(1), -2);
        CHECKS.due("nothing there", x.like(2), -1);
        HandleFaces parts = Checks.drawn(POSTS_4 + "line a b;line c d;");
        parts.hold(0);
        CHECKS.due("two parts", parts.like(0), -2);
        CHECKS.due("two parts, itself", parts.count(8), -2);
        HandleFaces one = Checks.drawn("post a;post b;line a b;");
        CHECKS.due("one line", one.count(8), 4);
        one.hold(0);
        one.twist(0);
        CHECKS.due("one line twisted", one.like(0), 4);
        HandleFaces mirror = Checks.drawn(POSTS_4 + "line a b;line a b;line a c;line a d;line a d;line c d;");
        mirror.hold(0);
        for (int post = 0; post < 4; post++) {
            mirror.flip(post);
        }
        CHECKS.due("like the other way round", mirror.like(0), mirror.count(8));
        CHECKS.due("a ring of 6", Checks.drawn(POSTS_6
            + "line a b;line c b;line c d;line d e;line e f twisted;line a f twisted;").count(8), 24);
    }

    private static void count() {
        HandleFaces x = Checks.drawn(POSTS_5 + "line a b;line b c;line c a;line c d twisted;");
        CHECKS.due("posts", x.count(0), 5);
        CHECKS.due("lines", x.count(1), 4);
        CHECKS.due("faces", x.count(2), 3);
        CHECKS.due("twisted ones", x.count(3), 8);
        CHECKS.due("greatest length", x.count(4), 5);
        CHECKS.due("least length", x.count(5), 0);
        CHECKS.due("one face on both sides", x.count(6), 8);
        CHECKS.due("rings", x.count(7), 1);
        CHECKS.due("like itself", x.count(8), -2);
        CHECKS.due("tape", x.count(9), 0);
        x.feed(1, 2, 3, 4, 5);
        CHECKS.due("tape", x.count(9), 20);
        x.flip(4);
        CHECKS.due("things to undo", x.count(10), 1);
        x.hold(0);
        x.hold(2);
        x.hold(2);
        CHECKS.due("slots", x.count(11), 2);
        CHECKS.due("straight ones", x.count(12), -2);
        for (int what : new int[] {-1, 13, LOW, HIGH}) {
            CHECKS.due("count(" + what + ")", x.count(what), -1);
        }
        x.lay(3, 0, 4, 0, false);
        CHECKS.due("least length", x.count(5), 3);
        CHECKS.due("rings of K5", Checks.drawn(FIVE).count(7), 37);
        CHECKS.due("rings of ten lines", Checks.drawn("post a;post b;" + "line a b;".repeat(10)).count(7), 45);
        CHECKS.due("rings of a doubled triangle", Checks.drawn(TRIANGLE + "line a b;line b c;line c a;").count(7), 11);
    }

    private static void straight() {
        HandleFaces x = Checks.drawn("post a;post b;" + "line a b;".repeat(4));
        // half round from line i is line i + 2 at both posts
        CHECKS.due("straight ones", x.count(12), 2);
        x.exchange(0, 0);
        CHECKS.due("straight ones exchanged", x.count(12), 1);
        x.goes(0);
        CHECKS.due("an odd number", x.count(12), -2);
        CHECKS.due("bare posts", Checks.drawn(POSTS_6).count(12), 0);
        CHECKS.due("two rings", Checks.drawn(POSTS_4 + "line a b;line a b;line c d;line c d;").count(12), 2);
        CHECKS.due("a ring and a bridge", Checks.drawn(TRIANGLE + "post d;line a d;").count(12), -2);
        HandleFaces five = Checks.drawn(FIVE);
        CHECKS.due("K5 is even", five.count(12) > 0, true);
    }
}
