/**
 * Sentences of the document that name a boundary, of WALKS, FACES and the SURFACE (promises 15 to 18 and 24 to 26): each
 * has a test of its own, which tells the sentence if it is broken.
 */
public final class FaceEdgeTest {
    private static final Checks CHECKS = new Checks();
    private static final int LOW = Integer.MIN_VALUE;
    private static final int HIGH = Integer.MAX_VALUE;

    public static void main(String[] args) {
        walks();
        faceNumbers();
        surface();
        line();
        round();
        face();
        without();
        beside();
        colours();
        CHECKS.end();
    }

    private static int[] outside(int limit) {
        return new int[] {LOW, LOW + 1, -100000, -3, -2, -1, limit, limit + 1, limit + 31, limit + 32, 64, HIGH};
    }

    private static HandleFaces planeFour() {
        return Checks.drawn(Checks.tells(4, "ab", "ac", "ad", "bc", "bd", "cd") + "round b 0 4 3;round d 2 5 4;");
    }

    private static void walks() {
        behindAndAhead();
        oneLineAtAPost();
        senseTurns();
        bothAreOneFace();
        length();
    }

    private static void behindAndAhead() {
        CHECKS.sentence("to the ARM behind it in the ROUND of the POST there (FORTH), or ahead of it (BACK)");
        // forth: behind 0 at b stands 2, behind 2 at a (the last) stands 0
        HandleFaces plain = Checks.drawn(Checks.tells(2, "ab", "ab", "ab") + "round b 0 2 1;");
        CHECKS.due("forth", Checks.walk(plain, 0), "02");
        // the first line turns the sense: ahead of 0 at b (the first) stands 1, its last one; ahead of 1 at a stands 0
        HandleFaces x = Checks.drawn("post a;post b;line a b twisted;line a b;line a b;round b 0 2 1;");
        // a0 forth, b1 back, a0 back, b2 forth, a0 forth
        CHECKS.due("back", Checks.walk(x, 0), "0102");
        // b1 forth, a2 forth: the first arm with forth of which no walk of face 0 stands
        CHECKS.due("forth", Checks.walk(x, 1), "12");
        CHECKS.due("faces", x.count(2), 2);
    }

    private static void oneLineAtAPost() {
        CHECKS.sentence("the last one ahead of the first again: one LINE alone stands behind itself");
        CHECKS.due("one line", Checks.walk(Checks.drawn(2, "ab"), 0), "00");
        CHECKS.due("one line twisted", Checks.walk(Checks.drawn(2, "ab~"), 0), "00");
        CHECKS.due("a path", Checks.walk(Checks.drawn(3, "ab", "bc"), 0), "0110");
        CHECKS.due("a path told the other way", Checks.walk(Checks.drawn(3, "ba~", "cb"), 0), "0011");
    }

    private static void senseTurns() {
        CHECKS.sentence("(the SENSE turns if the LINE is TWISTED)");
        CHECKS.due("two lines", Checks.walk(Checks.drawn(2, "ab", "ab"), 0), "01");
        CHECKS.due("one of two twisted", Checks.walk(Checks.drawn(2, "ab~", "ab"), 0), "0101");
        CHECKS.due("both twisted", Checks.walk(Checks.drawn(2, "ab~", "ab~"), 0), "01");
        CHECKS.due("both twisted: faces", Checks.drawn(2, "ab~", "ab~").count(2), 2);
        // the sense with which one stands at the first arm again must be the first one, too
        HandleFaces x = Checks.drawn(2, "ab~", "ab", "ab");
        CHECKS.due("twice through an arm, each sense once", Checks.walk(x, 0), "021012");
    }

    private static void bothAreOneFace() {
        CHECKS.sentence("both are one FACE");
        CHECKS.due("a ring", Checks.drawn(3, "ab", "bc", "ca").count(2), 2);
        CHECKS.due("a ring that does not turn", Checks.drawn(3, "ab", "bc~", "ca").count(2), 1);
        CHECKS.due("one line", Checks.drawn(2, "ab").count(2), 1);
        CHECKS.due("one line twisted", Checks.drawn(2, "ab~").count(2), 1);
        CHECKS.due("plane", planeFour().count(2), 4);
    }

    private static void length() {
        CHECKS.sentence("LENGTH: how many ARMS its WALK stands at");
        CHECKS.due("one line", Checks.drawn(2, "ab").face(0, -1), 2);
        HandleFaces path = Checks.drawn(6, "ab", "bc", "cd", "de", "ef");
        CHECKS.due("a path of 5", path.face(0, -1), 10);
        CHECKS.due("its walk", Checks.walk(path, 0), "0123443210");
        HandleFaces ten = Checks.drawn(6, "ab", "bc", "cd", "de", "ef", "fa", "ab", "bc", "cd", "de");
        int sum = 0;
        for (int face = 0; face < ten.count(2); face++) {
            sum += ten.face(face, -1);
        }
        CHECKS.due("all lengths", sum, 20);
        // 9 lines between two posts, both rounds by numbers: i, i + 1, i + 2 .. and all 18 arms
        HandleFaces nine = Checks.drawn(2, Checks.times(9, "ab"));
        CHECKS.due("one face of all", nine.face(0, -1), 18);
        CHECKS.due("its walk", Checks.walk(nine, 0), "012345678012345678");
        HandleFaces odd = Checks.drawn(2, Checks.times(10, "ab"));
        CHECKS.due("two faces of 10", odd.face(0, -1) * 100 + odd.face(1, -1), 1010);
        // the longest that can be: all 20 arms in one face
        HandleFaces longest = Checks.drawn(3, "ab", "ab", "ab", "ab", "ab", "ab", "ab", "ab", "ab", "bc");
        CHECKS.due("20 arms", longest.face(0, -1), 20);
        CHECKS.due("the last of them", longest.face(0, 19), Checks.walk(longest, 0).charAt(19) - '0');
        CHECKS.due("behind the last of them", longest.face(0, 20), -1);
    }

    private static void faceNumbers() {
        numberedByFirstArm();
        linesFromThereOn();
        bareFaces();
    }

    private static void numberedByFirstArm() {
        CHECKS.sentence("FACES are numbered by the first of all ARMS with FORTH, then with BACK "
            + "(ARMS by LINE, of one LINE that of its first POST ahead)");
        HandleFaces x = Checks.drawn(3, "ab", "bc", "ca");
        CHECKS.due("from a along 0", Checks.walk(x, 0), "012");
        CHECKS.due("from b along 0", Checks.walk(x, 1), "021");
        HandleFaces y = Checks.drawn(3, "ba", "bc", "ca");
        CHECKS.due("from b along 0", Checks.walk(y, 0), "021");
        CHECKS.due("from a along 0", Checks.walk(y, 1), "012");
        // both twisted: b0 forth is of face 0 (its walk the other way round), so that face 1 is told from a1 on
        HandleFaces z = Checks.drawn("post a;post b;line a b twisted;line a b twisted;round b 1 0;");
        CHECKS.due("from a along 0", Checks.walk(z, 0), "01");
        CHECKS.due("from a along 1", Checks.walk(z, 1), "10");
        // two parts: by lines, not by posts
        HandleFaces parts = Checks.drawn(5, "de", "ab", "bc", "ca");
        CHECKS.due("line 0 first", Checks.walk(parts, 0), "00");
        CHECKS.due("then line 1", Checks.walk(parts, 1), "123");
        CHECKS.due("then its other side", Checks.walk(parts, 2), "132");
    }

    private static void linesFromThereOn() {
        CHECKS.sentence("its LINES are told as this WALK goes, from there on");
        // c stands first of no line: face 0 is told from line 0 on, not from the least post
        HandleFaces x = Checks.drawn(3, "cb", "ba", "ac");
        CHECKS.due("walk", Checks.walk(x, 0), "012");
        CHECKS.due("walk", Checks.walk(x, 1), "021");
        HandleFaces plane = planeFour();
        CHECKS.due("a0 b4 d2", Checks.walk(plane, 0), "042");
        CHECKS.due("b0 a1 c3", Checks.walk(plane, 1), "013");
        CHECKS.due("c1 a2 d5", Checks.walk(plane, 2), "125");
        CHECKS.due("b3 c5 d4", Checks.walk(plane, 3), "354");
    }

    private static void bareFaces() {
        CHECKS.sentence("A POST without LINES is a FACE of LENGTH 0, behind all others, by POSTS");
        HandleFaces x = Checks.drawn(5, "bd", "bd");
        CHECKS.due("faces", x.face(-1, 0), 5);
        for (int face = 0; face < 5; face++) {
            CHECKS.due("length of face " + face, x.face(face, -1), face < 2 ? 2 : 0);
            CHECKS.due("beside face " + face, x.beside(face), face < 2 ? 2 >> face : 0);
        }
        HandleFaces bare = Checks.drawn(6);
        CHECKS.due("faces", bare.face(-1, 0), 6);
        CHECKS.due("length", bare.face(5, -1), 0);
        CHECKS.due("no line", bare.face(5, 0), -1);
        // the most faces that can be: 10 of 10 lines and 4 of bare posts
        HandleFaces most = Checks.drawn(Checks.tells(6, Checks.times(10, "ab")) + "round b 9 8 7 6 5 4 3 2 1 0;");
        CHECKS.due("faces", most.count(2), 14);
        CHECKS.due("length", most.face(9, -1), 2);
        CHECKS.due("length", most.face(10, -1), 0);
        CHECKS.due("length", most.face(13, -1), 0);
        CHECKS.due("face(14, -1)", most.face(14, -1), -1);
        CHECKS.due("colours", most.colours(), 2);
        CHECKS.due("euler", most.surface(2), 10);
        CHECKS.due("handles", most.surface(1), 0);
    }

    private static void surface() {
        parts();
        turnsRight();
        handlesAndCaps();
        CHECKS.sentence("surface: -100000 for others");
        HandleFaces x = planeFour();
        for (int what : outside(4)) {
            CHECKS.due("surface(" + what + ")", x.surface(what), -100000);
            CHECKS.due("surface(" + what + ") of no posts", new HandleFaces().surface(what), -100000);
        }
    }

    private static void parts() {
        CHECKS.sentence("PARTS: POSTS that hang together by LINES");
        CHECKS.due("no posts", new HandleFaces().surface(3), 0);
        CHECKS.due("one post", Checks.drawn(1).surface(3), 1);
        CHECKS.due("6 bare posts", Checks.drawn(6).surface(3), 6);
        CHECKS.due("a path told from its end", Checks.drawn(6, "ef", "de", "cd", "bc", "ab").surface(3), 1);
        CHECKS.due("a path told in disorder", Checks.drawn(6, "fa", "ce", "ad", "eb", "dc").surface(3), 1);
        CHECKS.due("three parts", Checks.drawn(6, "af", "eb", "cd").surface(3), 3);
        CHECKS.due("five lines of one pair", Checks.drawn(6, Checks.times(5, "fe")).surface(3), 5);
        CHECKS.sentence("EULER: POSTS less LINES and FACES");
        CHECKS.due("no posts", new HandleFaces().surface(2), 0);
        CHECKS.due("6 bare posts", Checks.drawn(6).surface(2), 12);
        CHECKS.due("below 0", Checks.drawn(2, Checks.times(9, "ab")).surface(2), 2 - 9 + 1);
    }

    private static void turnsRight() {
        CHECKS.sentence("It TURNS RIGHT if some POSTS can be turned over so that no LINE is TWISTED");
        CHECKS.due("no posts", new HandleFaces().surface(0), 1);
        CHECKS.due("bare posts", Checks.drawn(6).surface(0), 1);
        CHECKS.due("none twisted", planeFour().surface(0), 1);
        CHECKS.due("a tree, all twisted", Checks.drawn(6, "ab~", "cb~", "cd~", "ed~", "ef~").surface(0), 1);
        CHECKS.due("one line told from the last post", Checks.drawn(2, "ba~").surface(0), 1);
        CHECKS.due("a path told from the last post", Checks.drawn(4, "dc~", "cb", "ba~").surface(0), 1);
        CHECKS.due("a ring told from the last post", Checks.drawn(4, "dc~", "cb", "ba~", "da").surface(0), 1);
        CHECKS.due("a ring told from the last post", Checks.drawn(4, "dc~", "cb", "ba~", "da~").surface(0), 0);
        CHECKS.due("a ring of 3, all twisted", Checks.drawn(3, "ab~", "bc~", "ca~").surface(0), 0);
        CHECKS.due("a ring of 6, all twisted", Checks.drawn(6, "ab~", "bc~", "cd~", "de~", "ef~", "fa~").surface(0), 1);
        CHECKS.due("two of the same two, both", Checks.drawn(2, "ab~", "ba~").surface(0), 1);
        CHECKS.due("two of the same two, one", Checks.drawn(2, "ab~", "ba").surface(0), 0);
        CHECKS.due("the last part alone", Checks.drawn(6, "ab", "ab", "cd~", "cd~", "ef", "ef~").surface(0), 0);
        CHECKS.due("no part", Checks.drawn(6, "ab", "ab", "cd~", "cd~", "ef~", "ef~").surface(0), 1);
    }

    private static void handlesAndCaps() {
        CHECKS.sentence("SURFACE: of a drawing that TURNS RIGHT HANDLES: PARTS less half of EULER");
        CHECKS.due("no posts", new HandleFaces().surface(1), 0);
        CHECKS.due("6 bare posts", Checks.drawn(6).surface(1), 0);
        CHECKS.due("one line", Checks.drawn(2, "ab").surface(1), 0);
        CHECKS.due("one line twisted", Checks.drawn(2, "ab~").surface(1), 0);
        CHECKS.due("9 lines, one face", Checks.drawn(2, Checks.times(9, "ab")).surface(1), 4);
        CHECKS.due("10 lines, two faces", Checks.drawn(2, Checks.times(10, "ab")).surface(1), 4);
        CHECKS.due("two parts", Checks.drawn(4, "ab", "ab", "ab", "cd", "cd", "cd").surface(1), 2);
        CHECKS.sentence("of another one CAPS: twice the PARTS less EULER");
        CHECKS.due("one ring", Checks.drawn(2, "ab", "ab~").surface(1), 1);
        CHECKS.due("two rings", Checks.drawn(4, "ab", "ab~", "cd", "cd~").surface(1), 2);
        CHECKS.due("a ring, one that turns, a bare post", Checks.drawn(5, "ab", "ab~", "cd", "cd").surface(1), 1);
        HandleFaces x = Checks.drawn(2, Checks.times(10, "ab"));
        x.twist(0);
        CHECKS.due("10 lines, one twisted", x.surface(1), 2 - 2 + 10 - x.count(2));
    }

    private static void line() {
        CHECKS.sentence("line: 3 the lesser number of the FACES on its sides, 4 the greater one");
        HandleFaces x = Checks.drawn(4, "ab", "bc", "ca", "cd");
        CHECKS.due("a line of two faces", x.line(1, 3) * 10 + x.line(1, 4), 1);
        CHECKS.due("a line of one", x.line(3, 3) * 10 + x.line(3, 4), x.line(3, 3) * 11);
        CHECKS.due("the only line", Checks.drawn(2, "ab").line(0, 3) + Checks.drawn(2, "ab").line(0, 4), 0);
        HandleFaces most = Checks.drawn(Checks.tells(2, Checks.times(10, "ab")) + "round b 9 8 7 6 5 4 3 2 1 0;");
        // a0 goes to b, where 9 is behind; a1 to b, where 0 is behind ..: faces 0 9, 0 1, 1 2 ..
        CHECKS.due("line 0", most.line(0, 3) * 10 + most.line(0, 4), 1);
        CHECKS.due("line 8", most.line(8, 3) * 10 + most.line(8, 4), 89);
        CHECKS.due("line 9", most.line(9, 3) * 10 + most.line(9, 4), 9);
        CHECKS.sentence("line: NONE for others");
        for (int what : outside(5)) {
            CHECKS.due("line(0, " + what + ")", x.line(0, what), -1);
        }
        for (int line : outside(4)) {
            for (int what = -1; what <= 5; what++) {
                CHECKS.due("line(" + line + ", " + what + ")", x.line(line, what), -1);
            }
        }
        CHECKS.due("no lines", Checks.drawn(2).line(0, 3), -1);
        CHECKS.due("no posts", new HandleFaces().line(0, 0), -1);
        x.goes(3);
        CHECKS.due("the line that went", x.line(3, 0), -1);
    }

    private static void round() {
        CHECKS.sentence("round: or (i NONE) how many");
        HandleFaces x = Checks.drawn(6, Checks.times(10, "ab"));
        CHECKS.due("10 lines", x.round(0, -1), 10);
        CHECKS.due("no lines", x.round(5, -1), 0);
        CHECKS.due("the last of 10", x.round(1, 9), 9);
        CHECKS.sentence("round: NONE: no such ones");
        for (int i : outside(10)) {
            if (i != -1) {
                CHECKS.due("round(1, " + i + ")", x.round(1, i), -1);
            }
        }
        for (int post : outside(6)) {
            CHECKS.due("round(" + post + ", 0)", x.round(post, 0), -1);
            CHECKS.due("round(" + post + ", -1)", x.round(post, -1), -1);
        }
        CHECKS.due("round(5, 0) of a bare post", x.round(5, 0), -1);
        CHECKS.due("no posts", new HandleFaces().round(0, -1), -1);
    }

    private static void face() {
        CHECKS.sentence("FACES: how many (face NONE, whatever i is)");
        HandleFaces x = planeFour();
        for (int i : new int[] {LOW, -2, -1, 0, 1, 3, 4, HIGH}) {
            CHECKS.due("face(-1, " + i + ")", x.face(-1, i), 4);
            CHECKS.due("face(-1, " + i + ") of no posts", new HandleFaces().face(-1, i), 0);
        }
        CHECKS.sentence("of one its LENGTH (i NONE), the LINE at the i-th ARM of its WALK");
        CHECKS.due("face(3, -1)", x.face(3, -1), 3);
        CHECKS.due("face(3, 2)", x.face(3, 2), 4);
        CHECKS.sentence("face: NONE: no such ones");
        for (int i : outside(3)) {
            if (i != -1) {
                CHECKS.due("face(3, " + i + ")", x.face(3, i), -1);
            }
        }
        for (int face : outside(4)) {
            if (face != -1) {
                CHECKS.due("face(" + face + ", 0)", x.face(face, 0), -1);
                CHECKS.due("face(" + face + ", -1)", x.face(face, -1), -1);
            }
        }
        CHECKS.due("no posts", new HandleFaces().face(0, -1), -1);
        CHECKS.due("a bare post's", Checks.drawn(1).face(0, 0), -1);
    }

    private static void without() {
        CHECKS.sentence("What would be without a LINE: what 0 FACES, 1 PARTS, 2 EULER");
        HandleFaces x = Checks.drawn(2, "ab~");
        CHECKS.due("faces without the only line", x.without(0, 0), 2);
        CHECKS.due("parts", x.without(0, 1), 2);
        CHECKS.due("euler", x.without(0, 2), 4);
        HandleFaces ring = Checks.drawn(4, "ab", "bc", "ca~", "cd");
        CHECKS.due("faces without the twisted one", ring.without(2, 0), 1);
        CHECKS.due("euler", ring.without(2, 2), 2);
        CHECKS.due("faces without the last one", ring.without(3, 0), 2);
        CHECKS.due("parts", ring.without(3, 1), 2);
        CHECKS.due("euler", ring.without(3, 2), 3);
        String before = Checks.lookAtAll(ring);
        CHECKS.due("nothing happens", before, "01 12 20~ 23 : 02/01/123/3 tape 0 past 0 slots 0 place -1");
        CHECKS.due("faces as they are", ring.count(2), 1);
        CHECKS.sentence("without: -100000 for others");
        for (int line : outside(4)) {
            for (int what = -1; what <= 3; what++) {
                CHECKS.due("without(" + line + ", " + what + ")", ring.without(line, what), -100000);
            }
        }
        for (int what : outside(3)) {
            CHECKS.due("without(0, " + what + ")", ring.without(0, what), -100000);
        }
        CHECKS.due("no lines", Checks.drawn(2).without(0, 0), -100000);
    }

    private static void beside() {
        CHECKS.sentence("BESIDE: two FACES (or one and itself) if some LINE is gone through by both "
            + "(by the one on both sides)");
        HandleFaces x = Checks.drawn(4, "ab", "bc", "ca", "cd");
        int bridged = x.line(3, 3);
        CHECKS.due("one and itself, and the other", x.beside(bridged), 3);
        CHECKS.due("the other", x.beside(1 - bridged), 1 << bridged);
        CHECKS.due("the only line", Checks.drawn(2, "ab").beside(0), 1);
        CHECKS.due("a cap", Checks.drawn(2, "ab", "ab~").beside(0), 1);
        HandleFaces parts = Checks.drawn(4, "ab", "ab", "cd", "cd");
        CHECKS.due("of the same part alone", parts.beside(0) * 1000 + parts.beside(3), 2004);
        CHECKS.sentence("beside: NONE: no such one");
        for (int face : outside(2)) {
            CHECKS.due("beside(" + face + ")", x.beside(face), -1);
        }
        CHECKS.due("no posts", new HandleFaces().beside(0), -1);
        CHECKS.due("a bare post's face is beside none", Checks.drawn(1).beside(0), 0);
    }

    private static void colours() {
        CHECKS.sentence("COLOURS: the fewest by which all FACES get one each "
            + "so that no two BESIDE one another have the same");
        CHECKS.due("no faces", new HandleFaces().colours(), 0);
        CHECKS.due("one bare post", Checks.drawn(1).colours(), 1);
        CHECKS.due("6 bare posts", Checks.drawn(6).colours(), 1);
        CHECKS.due("a ring", Checks.drawn(3, "ab", "bc", "ca").colours(), 2);
        CHECKS.due("a ring and a bare post", Checks.drawn(4, "ab", "bc", "ca").colours(), 2);
        CHECKS.due("three lines", Checks.drawn(Checks.tells(2, "ab", "ab", "ab") + "round b 2 1 0;").colours(), 3);
        CHECKS.due("plane K4", planeFour().colours(), 4);
        // K5 on a handle: each post has the ones 1, 2, -1, -2 on round it; its five faces are all beside one another
        HandleFaces five = Checks.drawn(Checks.tells(5, "ab", "bc", "cd", "de", "ea", "ac", "bd", "ce", "da", "eb")
            + "round a 0 5 4 8;round b 1 6 0 9;round c 2 7 1 5;round d 3 8 2 6;round e 4 9 3 7;");
        CHECKS.due("K5 on a handle: faces", five.count(2), 5);
        CHECKS.due("K5 on a handle: colours", five.colours(), 5);
        CHECKS.sentence("none if one is BESIDE itself");
        CHECKS.due("one line", Checks.drawn(2, "ab").colours(), -2);
        CHECKS.due("a cap", Checks.drawn(2, "ab", "ab~").colours(), -2);
        CHECKS.due("one of many", Checks.drawn(5, "ab", "ab", "cd", "cd", "de").colours(), -2);
    }
}
