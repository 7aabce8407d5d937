/** Promises 6 to 14, 28 and 29: what is done by hand, undone, held and gone on from. */
public final class HandTest {
    private static final Checks CHECKS = new Checks();
    private static final int LOW = Integer.MIN_VALUE;
    private static final int HIGH = Integer.MAX_VALUE;
    private static final String STAR = "post a;post b;post c;post d;line a b;line a c;line a d;";
    private static final String FOUR = "post a;post b;post c;post d;"
        + "line a b;line a c;line a d;line b c;line b d;line c d;";

    public static void main(String[] args) {
        laid();
        gone();
        twisted();
        turnedOver();
        exchanged();
        lessened();
        dualMade();
        dualTwisted();
        shrunk();
        undone();
        held();
        CHECKS.end();
    }

    private static void rounds(String where, HandleFaces x, String... rows) {
        CHECKS.due(where + ": posts", x.count(0), rows.length);
        for (int post = 0; post < rows.length; post++) {
            StringBuilder row = new StringBuilder();
            for (int i = 0; i < x.round(post, -1); i++) {
                row.append(x.round(post, i));
            }
            CHECKS.due(where + ": round of post " + post + " is " + row + ", not " + rows[post],
                row.toString().equals(rows[post]), true);
        }
    }

    private static void laid() {
        HandleFaces x = Checks.drawn("post a;post b;post c;");
        CHECKS.due("corner 1 of a bare post", x.lay(0, 1, 1, 0, false), -1);
        CHECKS.due("corner -1 of a bare post", x.lay(0, -1, 1, 0, false), -1);
        CHECKS.due("corner 1 of the second", x.lay(0, 0, 1, 1, false), -1);
        CHECKS.due("no such post", x.lay(0, 0, 3, 0, false), -1);
        CHECKS.due("no such post", x.lay(-1, 0, 1, 0, false), -1);
        CHECKS.due("one post", x.lay(2, 0, 2, 0, false), -1);
        CHECKS.due("far out", x.lay(LOW, HIGH, HIGH, LOW, true), -1);
        CHECKS.due("nothing happens", x.count(10), 0);
        CHECKS.due("lay", x.lay(1, 0, 0, 0, true), 0);
        CHECKS.due("first post", x.line(0, 0), 1);
        CHECKS.due("second post", x.line(0, 1), 0);
        CHECKS.due("twisted", x.line(0, 2), 1);
        CHECKS.due("corner 1 of 1 line", x.lay(1, 1, 2, 0, false), -1);
        CHECKS.due("lay", x.lay(1, 0, 2, 0, false), 1);
        CHECKS.due("lay", x.lay(1, 0, 0, 0, false), 2);
        rounds("laid", x, "02", "021", "1");
        CHECKS.due("lay behind the last", x.lay(1, 2, 0, 1, false), 3);
        rounds("laid behind the last", x, "023", "0213", "1");
        for (int k = 4; k < 10; k++) {
            CHECKS.due("lay", x.lay(0, 0, 2, 0, false), k);
        }
        CHECKS.due("an 11th line", x.lay(0, 0, 1, 0, false), -1);
        CHECKS.due("things to undo", x.count(10), 10);
    }

    private static void gone() {
        HandleFaces x = Checks.drawn(FOUR + "round a 2 0 1;");
        x.twist(0);
        x.twist(4);
        CHECKS.due("goes(-1)", x.goes(-1), false);
        CHECKS.due("goes(6)", x.goes(6), false);
        CHECKS.due("goes(low)", x.goes(LOW), false);
        CHECKS.due("goes(1)", x.goes(1), true);
        rounds("gone", x, "10", "023", "24", "134");
        CHECKS.due("twisted ones", x.count(3), 9);
        CHECKS.due("line 1 then", x.line(1, 1), 3);
        CHECKS.due("goes(4), the last", x.goes(4), true);
        CHECKS.due("goes(0)", x.goes(0), true);
        CHECKS.due("twisted ones", x.count(3), 4);
        CHECKS.due("lines", x.count(1), 3);
        for (int k = 0; k < 3; k++) {
            x.goes(0);
        }
        rounds("all gone", x, "", "", "", "");
        CHECKS.due("goes(0) without lines", x.goes(0), false);
    }

    private static void twisted() {
        HandleFaces x = Checks.drawn(STAR);
        CHECKS.due("twist(3)", x.twist(3), false);
        CHECKS.due("twist(-1)", x.twist(-1), false);
        CHECKS.due("twist(32)", x.twist(32), false);
        CHECKS.due("twist(2)", x.twist(2), true);
        CHECKS.due("twisted ones", x.count(3), 4);
        CHECKS.due("twist(2)", x.twist(2), true);
        CHECKS.due("twisted no more", x.count(3), 0);
        CHECKS.due("things to undo", x.count(10), 2);
    }

    private static void turnedOver() {
        HandleFaces x = Checks.drawn(STAR + "line a b twisted;");
        CHECKS.due("flip(4)", x.flip(4), false);
        CHECKS.due("flip(-1)", x.flip(-1), false);
        CHECKS.due("flip(0)", x.flip(0), true);
        rounds("turned over", x, "3210", "03", "1", "2");
        CHECKS.due("twisted ones", x.count(3), 7);
        CHECKS.due("flip(1)", x.flip(1), true);
        CHECKS.due("twisted ones", x.count(3), 14);
        HandleFaces bare = Checks.drawn("post a;");
        CHECKS.due("flip of a bare post", bare.flip(0), true);
        CHECKS.due("things to undo", bare.count(10), 1);
    }

    private static void exchanged() {
        HandleFaces x = Checks.drawn(STAR);
        CHECKS.due("exchange(0, 3)", x.exchange(0, 3), false);
        CHECKS.due("exchange(0, -1)", x.exchange(0, -1), false);
        CHECKS.due("exchange(1, 0) of one line", x.exchange(1, 0), false);
        CHECKS.due("exchange(4, 0)", x.exchange(4, 0), false);
        CHECKS.due("exchange(-1, 0)", x.exchange(-1, 0), false);
        CHECKS.due("things to undo", x.count(10), 0);
        CHECKS.due("exchange(0, 0)", x.exchange(0, 0), true);
        rounds("exchanged", x, "102", "0", "1", "2");
        CHECKS.due("exchange(0, 2)", x.exchange(0, 2), true);
        rounds("exchanged with the first", x, "201", "0", "1", "2");
        HandleFaces two = Checks.drawn("post a;post b;line a b;line a b;");
        CHECKS.due("exchange of two lines", two.exchange(0, 0), false);
    }

    private static void lessened() {
        HandleFaces x = Checks.drawn(FOUR);
        x.twist(5);
        x.flip(0);
        CHECKS.due("lessen", x.lessen(), 0);
        rounds("lessened", x, "012", "043", "135", "254");
        CHECKS.due("twisted ones", x.count(3), 0);
        CHECKS.due("things to undo", x.count(10), 3);
        CHECKS.due("lessen again", x.lessen(), 0);
        CHECKS.due("things to undo", x.count(10), 4);
        HandleFaces wide = Checks.drawn("post a;post b;" + "line a b;".repeat(6));
        CHECKS.due("14,400 of all rounds", wide.all(0), 14400);
        CHECKS.due("lessen", wide.lessen(), 0);
        rounds("lessened", wide, "012345", "054321");
        wide.lay(0, 0, 1, 0, false);
        CHECKS.due("518,400 of all rounds", wide.all(0), 518400);
        CHECKS.due("lessen", wide.lessen(), -1);
        CHECKS.due("things to undo", wide.count(10), 2);
    }

    private static void dualMade() {
        HandleFaces x = Checks.drawn("post a;post b;post c;line a b;line b c;line c a;");
        CHECKS.due("dual of a triangle", x.dual(), 2);
        rounds("dual of a triangle", x, "012", "021");
        CHECKS.due("leads from the lesser", x.line(2, 0) * 10 + x.line(2, 1), 1);
        CHECKS.due("twisted ones", x.count(3), 0);
        CHECKS.due("dual again", x.dual(), 3);
        CHECKS.due("a bridge", Checks.drawn("post a;post b;line a b;").dual(), -1);
        CHECKS.due("a bare post", Checks.drawn("post a;post b;post c;line a b;line a b;").dual(), -1);
        HandleFaces seven = Checks.drawn("post a;post b;" + "line a b;".repeat(7) + "round b 6 5 4 3 2 1 0;");
        CHECKS.due("7 faces", seven.count(2), 7);
        CHECKS.due("dual of 7 faces", seven.dual(), -1);
        CHECKS.due("nothing happens", seven.count(10), 0);
        seven.goes(6);
        CHECKS.due("dual of 6 faces", seven.dual(), 6);
        CHECKS.due("dual of no posts", new HandleFaces().dual(), 0);
    }

    /** K4 with three faces of four lines, which does not turn; its dual is a doubled triangle with four faces. */
    private static void dualTwisted() {
        HandleFaces x = Checks.drawn(FOUR);
        x.twist(1);
        x.twist(4);
        x.hold(0);
        CHECKS.due("caps", x.surface(0) * 10 + x.surface(1), 1);
        CHECKS.due("dual", x.dual(), 3);
        rounds("dual that does not turn", x, "0352", "0154", "2431");
        CHECKS.due("twisted ones", x.count(3), 56);
        CHECKS.due("line 4 leads", x.line(4, 0) * 10 + x.line(4, 1), 12);
        CHECKS.due("caps", x.surface(0) * 10 + x.surface(1), 1);
        CHECKS.due("faces", x.count(2), 4);
        CHECKS.due("greatest length", x.count(4), 3);
        CHECKS.due("least length", x.count(5), 3);
        CHECKS.due("like itself", x.count(8), 24);
        CHECKS.due("dual of the dual", x.dual(), 4);
        CHECKS.due("like", x.like(0), 24);
        HandleFaces plane = Checks.drawn(FOUR + "round b 0 4 3;round d 2 5 4;");
        plane.hold(0);
        plane.flip(0);
        CHECKS.due("dual", plane.dual(), 4);
        CHECKS.due("handles", plane.surface(0) * 10 + plane.surface(1), 10);
        CHECKS.due("dual of the dual", plane.dual(), 4);
        CHECKS.due("like", plane.like(0), 24);
    }

    private static void shrunk() {
        HandleFaces x = Checks.drawn(FOUR + "round a 2 0 1;round b 3 0 4;");
        CHECKS.due("shrink(-1)", x.shrink(-1), false);
        CHECKS.due("shrink(6)", x.shrink(6), false);
        CHECKS.due("shrink(0)", x.shrink(0), true);
        rounds("shrunk", x, "1320", "024", "134");
        CHECKS.due("line 2 then", x.line(2, 0) * 10 + x.line(2, 1), 1);
        CHECKS.due("another line joins them", x.shrink(0), false);
        CHECKS.due("another line joins them", x.shrink(3), false);
        CHECKS.due("things to undo", x.count(10), 1);
        x.undo();
        rounds("undone", x, "201", "304", "135", "245");
        // the second post is turned over first if the line is twisted
        x.twist(0);
        CHECKS.due("shrink(0)", x.shrink(0), true);
        rounds("shrunk twisted", x, "1230", "024", "134");
        CHECKS.due("twisted ones", x.count(3), 12);
        // a line whose second post is the lesser one
        HandleFaces y = Checks.drawn("post a;post b;post c;line c a;line b a twisted;line b c;round a 1 0;");
        CHECKS.due("shrink(0)", y.shrink(0), true);
        rounds("shrunk into the greater", y, "01", "01");
        CHECKS.due("line 0 then", y.line(0, 0) * 10 + y.line(0, 1), 1);
        CHECKS.due("line 1 then", y.line(1, 0) * 10 + y.line(1, 1), 1);
        CHECKS.due("twisted ones", y.count(3), 1);
        HandleFaces last = Checks.drawn("post a;post b;line a b twisted;");
        CHECKS.due("shrink of the only line", last.shrink(0), true);
        rounds("one bare post", last, "");
        CHECKS.due("twisted ones", last.count(3), 0);
    }

    private static void undone() {
        HandleFaces x = Checks.drawn(FOUR + "round a 2 0 1;");
        x.hold(0);
        x.lay(0, 1, 1, 2, true);
        x.goes(3);
        x.twist(1);
        x.flip(2);
        x.exchange(0, 3);
        x.lessen();
        x.shrink(1);
        x.dual();
        int done = x.count(10);
        CHECKS.due("at least seven were done", done >= 7, true);
        x.twist(99);
        x.goes(-1);
        x.flip(9);
        CHECKS.due("what was refused is not undone", x.count(10), done);
        for (int k = done; k > 0; k--) {
            CHECKS.due("undo", x.undo(), true);
            CHECKS.due("things to undo", x.count(10), k - 1);
        }
        CHECKS.due("nothing more to undo", x.undo(), false);
        rounds("all undone", x, "201", "034", "135", "245");
        CHECKS.due("twisted ones", x.count(3), 0);
        CHECKS.due("slots stay", x.count(11), 1);
        // the last 40 of many, and things done behind an undo
        for (int k = 0; k < 43; k++) {
            x.exchange(0, k % 3);
        }
        x.undo();
        x.undo();
        x.twist(2);
        CHECKS.due("things to undo", x.count(10), 39);
        for (int k = 0; k < 39; k++) {
            CHECKS.due("undo", x.undo(), true);
        }
        CHECKS.due("undo of the 41st", x.undo(), false);
        HandleFaces y = Checks.drawn(FOUR + "round a 2 0 1;");
        y.exchange(0, 0);
        y.exchange(0, 1);
        y.exchange(0, 2);
        for (int i = 0; i < 3; i++) {
            CHECKS.due("as behind three exchanges", x.round(0, i), y.round(0, i));
        }
    }

    private static void held() {
        HandleFaces x = Checks.drawn(FOUR);
        CHECKS.due("hold(-1)", x.hold(-1), false);
        CHECKS.due("hold(3)", x.hold(3), false);
        CHECKS.due("hold(low)", x.hold(LOW), false);
        CHECKS.due("restore(2) of nothing", x.restore(2), false);
        CHECKS.due("restore(3)", x.restore(3), false);
        CHECKS.due("restore(-1)", x.restore(-1), false);
        x.twist(0);
        CHECKS.due("hold(2)", x.hold(2), true);
        CHECKS.due("hold does not forget", x.count(10), 1);
        x.goes(0);
        CHECKS.due("hold(0)", x.hold(0), true);
        CHECKS.due("slots", x.count(11), 2);
        x.goes(0);
        CHECKS.due("restore(1) of nothing", x.restore(1), false);
        CHECKS.due("nothing happens", x.count(10), 3);
        CHECKS.due("restore(2)", x.restore(2), true);
        CHECKS.due("lines", x.count(1), 6);
        CHECKS.due("twisted ones", x.count(3), 1);
        CHECKS.due("nothing can be undone", x.undo(), false);
        x.flip(0);
        CHECKS.due("it stays in the slot", x.restore(2), true);
        CHECKS.due("twisted ones", x.count(3), 1);
        CHECKS.due("restore(0)", x.restore(0), true);
        CHECKS.due("lines", x.count(1), 5);
        CHECKS.due("hold over another", x.hold(2), true);
        x.goes(0);
        x.restore(2);
        CHECKS.due("lines", x.count(1), 5);
        Checks.type(x, "post a;");
        x.restore(0);
        CHECKS.due("the tape is not held", x.count(9), 7);
    }
}
