/**
 * Sentences of the document that name a boundary, of ALL ROUNDS, RINGS, LIKE, STRAIGHT and what is counted (promises 19
 * to 23, 27 and 30): each has a test of its own, which tells the sentence if it is broken.
 */
public final class CountEdgeTest {
    private static final Checks CHECKS = new Checks();
    private static final int LOW = Integer.MIN_VALUE;
    private static final int HIGH = Integer.MAX_VALUE;
    /** 720 * 24 of all rounds: the most that are not more than 20,000. */
    private static final String[] JUST_BELOW = {"ab", "ab", "ab", "ab", "ab", "ac", "ac"};
    /** 5040 * 2 * 2 of all rounds: the fewest that are more. */
    private static final String[] JUST_ABOVE = {"ab", "ab", "ab", "ac", "ac", "ac", "ad", "ad"};
    private static final String[] FOUR = {"ab", "ac", "ad", "bc", "bd", "cd"};
    private static final String[] FIVE = {"ab", "ac", "ad", "ae", "bc", "bd", "be", "cd", "ce", "de"};
    private static final String[] THREE_THREE = {"ad", "ae", "af", "bd", "be", "bf", "cd", "ce", "cf"};

    public static void main(String[] args) {
        howMany();
        orderOfAll();
        leastMostFirst();
        needing();
        ordered();
        capped();
        ringsAndBound();
        like();
        straight();
        counts();
        noneAheadOfTwo();
        CHECKS.end();
    }

    private static int[] outside(int limit) {
        return new int[] {LOW, LOW + 1, -100000, -3, -2, -1, limit, limit + 1, limit + 31, limit + 32, 64, HIGH};
    }

    private static void howMany() {
        CHECKS.sentence("how many: for each POST of d LINES, 2 at least, (d - 1)! times");
        CHECKS.due("no posts", new HandleFaces().all(0), 1);
        CHECKS.due("bare posts", Checks.drawn(6).all(0), 1);
        long[] factorials = {1, 1, 1, 2, 6, 24, 120, 720, 5040, 40320, 362880};
        for (int d = 1; d <= 10; d++) {
            long each = factorials[d];
            CHECKS.due(d + " lines at both posts", Checks.drawn(2, Checks.times(d, "ab")).all(0), each * each);
        }
        CHECKS.due("2, 3, 3 and 8", Checks.drawn(4, JUST_ABOVE).all(0), 20160);
        CHECKS.due("twisted ones, too", Checks.drawn(2, "ab~", "ab~", "ab").all(0), 4);
    }

    private static String row(HandleFaces x, int n, int post) {
        StringBuilder out = new StringBuilder();
        for (int i = 0; i < x.round(post, -1); i++) {
            out.append(x.ordered(n, post, i));
        }
        return out.toString();
    }

    private static void orderOfAll() {
        CHECKS.sentence("POST by POST, each one's ROUND begins with its least LINE, then the least row is ahead "
            + "(the first POST tells first)");
        HandleFaces x = Checks.drawn(Checks.tells(3, "bc", "ab", "ab", "ab") + "round a 3 2 1;round b 3 2 1 0;");
        String[] rows = {"0123", "0132", "0213", "0231", "0312", "0321"};
        for (int n = 0; n < 12; n++) {
            CHECKS.due("post 0 of " + n, row(x, n, 0), n < 6 ? "123" : "132");
            CHECKS.due("post 1 of " + n, row(x, n, 1), rows[n % 6]);
            CHECKS.due("post 2 of " + n, row(x, n, 2), "0");
        }
    }

    private static void leastMostFirst() {
        CHECKS.sentence("LEAST: the fewest HANDLES that any of ALL ROUNDS needs; MOST: the most");
        HandleFaces none = new HandleFaces();
        CHECKS.due("no posts: least", none.all(1), 0);
        CHECKS.due("no posts: most", none.all(2), 0);
        CHECKS.due("no posts: first", none.all(3), 0);
        HandleFaces parts = Checks.drawn(6, "ab", "ab", "ab", "cd", "cd", "cd", "ef", "ef", "ef");
        CHECKS.due("three parts: least", parts.all(1), 0);
        CHECKS.due("three parts: most", parts.all(2), 3);
        CHECKS.due("K5: least", Checks.drawn(5, FIVE).all(1), 1);
        CHECKS.due("K5: most", Checks.drawn(5, FIVE).all(2), 3);
        CHECKS.sentence("the place of the FIRST one of LEAST HANDLES (from 0 on");
        CHECKS.due("one line: the first of all", Checks.drawn(2, "ab").all(3), 0);
        // by numbers both: 012 and 012 needs a handle; 012 and 021 none
        CHECKS.due("three lines: the second", Checks.drawn(2, "ab", "ab", "ab").all(3), 1);
        // the last row of b, 0321, is the mirror of a's first one
        CHECKS.due("four lines: the sixth", Checks.drawn(2, Checks.times(4, "ab")).all(3), 5);
        CHECKS.due("five lines: the 24th", Checks.drawn(2, Checks.times(5, "ab")).all(3), 23);
        CHECKS.due("six lines: the 120th", Checks.drawn(2, Checks.times(6, "ab")).all(3), 119);
        CHECKS.sentence("1 to 3: -2 if there are more than 20,000");
        HandleFaces below = Checks.drawn(3, JUST_BELOW);
        CHECKS.due("17,280: all(0)", below.all(0), 17280);
        CHECKS.due("17,280: least", below.all(1), 0);
        CHECKS.due("17,280: most", below.all(2) > 0, true);
        CHECKS.due("17,280: first", below.all(3) >= 0, true);
        HandleFaces above = Checks.drawn(4, JUST_ABOVE);
        for (int what = 1; what <= 3; what++) {
            CHECKS.due("20,160: all(" + what + ")", above.all(what), -2);
        }
        CHECKS.sentence("all: NONE for others");
        for (int what : outside(4)) {
            CHECKS.due("all(" + what + ")", below.all(what), -1);
            CHECKS.due("all(" + what + ") of no posts", none.all(what), -1);
        }
    }

    private static void needing() {
        CHECKS.sentence("How many of ALL ROUNDS need so many HANDLES");
        HandleFaces below = Checks.drawn(3, JUST_BELOW);
        int sum = 0;
        for (int handles = 0; handles <= 5; handles++) {
            int many = below.needing(handles);
            CHECKS.due("needing(" + handles + ") and most", many > 0, handles <= below.all(2));
            sum += many;
        }
        CHECKS.due("17,280 in all", sum, 17280);
        // a has two lines to b and two to c: it needs a handle just if they stand by turns round it
        HandleFaces pairs = Checks.drawn(3, "ab", "ab", "ac", "ac");
        CHECKS.due("0213 and 0312 need one", pairs.needing(0) * 10 + pairs.needing(1), 42);
        CHECKS.due("the first needs none", pairs.all(3), 0);
        HandleFaces turns = Checks.drawn(3, "ab", "ac", "ab", "ac");
        CHECKS.due("0123 and 0321 need one", turns.needing(0) * 10 + turns.needing(1), 42);
        CHECKS.due("the second needs none", turns.all(3), 1);
        for (int handles : outside(6)) {
            CHECKS.due("needing(" + handles + ")", below.needing(handles), 0);
        }
        CHECKS.due("no posts", new HandleFaces().needing(0), 1);
        CHECKS.due("no posts: a handle", new HandleFaces().needing(1), 0);
        CHECKS.sentence("needing: -2: there are more than 20,000");
        HandleFaces above = Checks.drawn(4, JUST_ABOVE);
        for (int handles : new int[] {LOW, -2, -1, 0, 1, 4, 5, 6, HIGH}) {
            CHECKS.due("needing(" + handles + ")", above.needing(handles), -2);
        }
    }

    private static void ordered() {
        CHECKS.sentence("The i-th LINE of a POST's ROUND in the n-th of ALL ROUNDS");
        HandleFaces x = Checks.drawn(4, "ab", "ab", "ab", "bc");
        CHECKS.due("the first", row(x, 0, 0), "012");
        CHECKS.due("the last", row(x, 11, 0) + row(x, 11, 1) + row(x, 11, 2), "02103213");
        // more than 20,000 are ordered as well
        HandleFaces above = Checks.drawn(4, JUST_ABOVE);
        CHECKS.due("the last of 20,160", row(above, 20159, 0), "07654321");
        CHECKS.due("the last of 20,160", row(above, 20159, 1) + row(above, 20159, 2) + row(above, 20159, 3), "02135467");
        HandleFaces most = Checks.drawn(2, Checks.times(10, "ab"));
        CHECKS.due("the 362,880th", row(most, 362879, 0) + row(most, 362879, 1), "01234567890987654321");
        CHECKS.due("one more", row(most, 362880, 0) + row(most, 362880, 1), "01234567980123456789");
        CHECKS.sentence("ordered: NONE: no such ones");
        for (int n : new int[] {LOW, -2, -1, 12, 13, 20000, HIGH}) {
            CHECKS.due("ordered(" + n + ", 0, 0)", x.ordered(n, 0, 0), -1);
        }
        for (int post : outside(4)) {
            CHECKS.due("ordered(0, " + post + ", 0)", x.ordered(0, post, 0), -1);
        }
        for (int i : outside(3)) {
            CHECKS.due("ordered(0, 0, " + i + ")", x.ordered(0, 0, i), -1);
        }
        CHECKS.due("one line: the second of it", x.ordered(0, 2, 1), -1);
        CHECKS.due("a bare post", x.ordered(0, 3, 0), -1);
        CHECKS.due("20,160", above.ordered(20160, 0, 0), -1);
        CHECKS.due("no posts", new HandleFaces().ordered(0, 0, 0), -1);
        CHECKS.due("bare posts", Checks.drawn(6).ordered(0, 5, 0), -1);
    }

    private static void capped() {
        CHECKS.sentence("CAPPED: with LINES TWISTED besides, in all ways: the least of twice the PARTS less EULER");
        CHECKS.due("no posts", new HandleFaces().capped(), 0);
        CHECKS.due("bare posts", Checks.drawn(6).capped(), 0);
        CHECKS.due("one line twisted", Checks.drawn(2, "ab~").capped(), 0);
        CHECKS.due("a ring that does not turn now", Checks.drawn(2, "ab~", "ab").capped(), 0);
        HandleFaces three = Checks.drawn(6, THREE_THREE);
        CHECKS.due("K3,3", three.capped(), 1);
        three.goes(0);
        CHECKS.due("K3,3 without a line", three.capped(), 0);
        three.undo();
        CHECKS.due("K3,3 again", three.capped(), 1);
        cappedInAnyOrder();
        CHECKS.sentence("ALL ROUNDS times 2 for each LINE, but one for each POST less PARTS, are more than 20,000");
        HandleFaces near = Checks.drawn(4, "ab", "ab", "ab", "ac", "ad", "bc", "bc");
        CHECKS.due("24 * 24 * 2 of all rounds", near.all(0), 1152);
        CHECKS.due("times 16: 18,432", near.capped(), 0);
        HandleFaces over = Checks.drawn(6, "ab", "ac", "ad", "bc", "bd", "cd", "ab", "ce", "df");
        CHECKS.due("6 * 6 * 6 * 6 of all rounds", over.all(0), 1296);
        CHECKS.due("times 16: 20,736", over.capped(), -2);
        CHECKS.due("20,736: all(1)", over.all(1), 0);
        over.goes(8);
        CHECKS.due("432 times 16", over.capped(), 0);
        // parts: each has one LINE more that may be twisted than it has posts
        CHECKS.due("2 parts: 576 times 32", Checks.drawn(4, "ab", "ab", "ab", "ab", "ab", "cd", "cd").capped(), 0);
        CHECKS.due("3 parts: 576 times 32", Checks.drawn(6, "ab", "ab", "ab", "ab", "ab", "cd", "cd", "ef").capped(), 0);
        CHECKS.due("3 parts: 576 times 64",
            Checks.drawn(6, "ab", "ab", "ab", "ab", "ab", "cd", "cd", "ef", "ef").capped(), -2);
        CHECKS.due("bare posts: 576 times 16", Checks.drawn(6, Checks.times(5, "ab")).capped(), 0);
        CHECKS.due("10 lines", Checks.drawn(2, Checks.times(10, "ab")).capped(), -2);
        HandleFaces more = Checks.drawn(6, "ad", "ae", "af", "bd", "be", "bf", "cd", "ce", "cf", "ab");
        CHECKS.due("K3,3 and a line: 576 times 32", more.capped(), 1);
    }

    /** In whichever order and way the lines of K3,3, and one line more, are told. */
    private static void cappedInAnyOrder() {
        java.util.Random random = new java.util.Random(11);
        for (int k = 0; k < 120; k++) {
            java.util.List<String> lines = new java.util.ArrayList<>(java.util.List.of(THREE_THREE));
            boolean more = k % 3 == 0;
            if (more) {
                lines.add(k % 2 == 0 ? "ab" : "ad");
            }
            java.util.Collections.shuffle(lines, random);
            lines.replaceAll(line -> random.nextBoolean() ? line : "" + line.charAt(1) + line.charAt(0));
            HandleFaces x = Checks.drawn(6, lines.toArray(new String[0]));
            CHECKS.due("K3,3 told as " + lines, x.capped(), 1);
            x.goes(lines.size() - 1);
            CHECKS.due("K3,3 told as " + lines + " without the last one", x.capped(), x.all(1));
        }
    }

    private static void ringsAndBound() {
        CHECKS.sentence("none of the POSTS and LINES twice, and back to the first one "
            + "(two LINES that join the same two POSTS are one)");
        CHECKS.due("no posts", new HandleFaces().count(7), 0);
        CHECKS.due("one line there and back", Checks.drawn(2, "ab").count(7), 0);
        CHECKS.due("two lines", Checks.drawn(2, "ab", "ba").count(7), 1);
        CHECKS.due("three lines", Checks.drawn(2, "ab", "ba", "ab").count(7), 3);
        CHECKS.due("a ring of 6", Checks.drawn(6, "ab", "bc", "cd", "de", "ef", "fa").count(7), 1);
        CHECKS.due("two rings that meet at a post", Checks.drawn(5, "ab", "bc", "ca", "cd", "de", "ec").count(7), 2);
        CHECKS.due("two rings apart", Checks.drawn(6, "ab", "bc", "ca", "de", "ef", "fd").count(7), 2);
        CHECKS.due("K4: 4 of 3, 3 of 4", Checks.drawn(4, FOUR).count(7), 7);
        CHECKS.due("K3,3: 9 of 4, 6 of 6", Checks.drawn(6, THREE_THREE).count(7), 15);
        HandleFaces asked = Checks.drawn(4, FOUR);
        CHECKS.due("asked once", asked.count(7), 7);
        CHECKS.due("asked twice", asked.count(7), 7);
        CHECKS.due("girth", asked.bound(1), 3);
        asked.goes(0);
        CHECKS.due("without a line", asked.count(7), 3);
        asked.goes(0);
        CHECKS.due("without two lines: the ring b c d", asked.count(7), 1);
        asked.goes(1);
        CHECKS.due("without three lines", asked.count(7), 0);
        CHECKS.due("without three lines: girth", asked.bound(1), -2);
        CHECKS.sentence("GIRTH: how many LINES the shortest one has");
        String[] ring = {"ab", "bc", "cd", "de", "ef", "fa"};
        for (int length = 2; length <= 6; length++) {
            String[] lines = java.util.Arrays.copyOf(ring, length);
            lines[length - 1] = "" + lines[length - 1].charAt(0) + "a";
            CHECKS.due("a ring of " + length, Checks.drawn(6, lines).bound(1), length);
        }
        CHECKS.due("the shortest of three", Checks.drawn(6, "ab", "bc", "cd", "de", "ef", "fa", "ad", "fb").bound(1), 3);
        CHECKS.sentence("bound: (1; -2: no RING)");
        CHECKS.due("no posts", new HandleFaces().bound(1), -2);
        CHECKS.due("bare posts", Checks.drawn(6).bound(1), -2);
        CHECKS.due("a tree", Checks.drawn(6, "ab", "ac", "ad", "ae", "af").bound(1), -2);
        bound();
    }

    private static void bound() {
        CHECKS.sentence("BOUND (if it has a RING and is of one PART)");
        CHECKS.due("no posts", new HandleFaces().bound(0), 0);
        CHECKS.due("a tree", Checks.drawn(3, "ab", "bc").bound(0), 0);
        CHECKS.due("K5", Checks.drawn(5, FIVE).bound(0), 1);
        CHECKS.due("K5 and a bare post", Checks.drawn(6, FIVE).bound(0), 0);
        CHECKS.due("K5 and a bare post: girth", Checks.drawn(6, FIVE).bound(1), 3);
        CHECKS.sentence("less the whole part of (twice LINES, by GIRTH)), rounded up, 0 at least");
        // 2 - 5 + 10 - 6: a half, rounded up
        CHECKS.due("K5: 20 by 3", Checks.drawn(5, FIVE).bound(0), 1);
        // 2 - 6 + 9 - 4
        CHECKS.due("K3,3: 18 by 4", Checks.drawn(6, THREE_THREE).bound(0), 1);
        // 2 - 6 + 8 - 4
        HandleFaces less = Checks.drawn(6, THREE_THREE);
        less.goes(0);
        CHECKS.due("K3,3 without a line: 16 by 4", less.bound(0), 0);
        // 2 - 5 + 9 - 6
        HandleFaces five = Checks.drawn(5, FIVE);
        five.goes(9);
        CHECKS.due("K5 without a line: 18 by 3", five.bound(0), 0);
        // 2 - 2 + 10 - 10; 2 - 6 + 10 - 10
        CHECKS.due("10 lines of two posts", Checks.drawn(2, Checks.times(10, "ab")).bound(0), 0);
        CHECKS.due("below 0", Checks.drawn(6, "ab", "bc", "cd", "de", "ef", "fa", "ab", "bc", "cd", "de").bound(0), 0);
        CHECKS.sentence("bound: NONE for others");
        for (int what : outside(2)) {
            CHECKS.due("bound(" + what + ")", five.bound(what), -1);
            CHECKS.due("bound(" + what + ") of no posts", new HandleFaces().bound(what), -1);
        }
    }

    private static void like() {
        CHECKS.sentence("LIKE a SLOT's: in how many ways");
        HandleFaces one = Checks.drawn(2, "ab");
        one.hold(0);
        CHECKS.due("one line", one.like(0), 4);
        one.lay(0, 0, 1, 0, false);
        CHECKS.due("another number of lines", one.like(0), 0);
        one.hold(1);
        one.twist(0);
        CHECKS.due("twisted", one.like(1), 0);
        one.twist(1);
        CHECKS.due("both twisted", one.like(1), 8);
        HandleFaces most = Checks.drawn(Checks.tells(2, Checks.times(10, "ab")) + "round b 9 8 7 6 5 4 3 2 1 0;");
        CHECKS.due("the most ways: 10 lines", most.count(8), 40);
        HandleFaces path = Checks.drawn(4, "ab", "bc", "cd");
        path.hold(2);
        CHECKS.due("a path", path.like(2), 4);
        // round a stand a line, a path and two lines to one post: no way but the one that leaves all as it is
        CHECKS.due("the fewest ways", Checks.drawn(5, "ab", "ac", "cd", "ae", "ae").count(8), 1);
        CHECKS.sentence("like: NONE: it holds nothing, no such one");
        for (int slot : outside(3)) {
            CHECKS.due("like(" + slot + ")", path.like(slot), -1);
        }
        CHECKS.due("like(0)", path.like(0), -1);
        CHECKS.due("like(1)", path.like(1), -1);
        CHECKS.sentence("like: -2: either is not of one PART, or has no LINE");
        HandleFaces x = Checks.drawn(3, "ab", "bc");
        x.hold(0);
        x.goes(1);
        CHECKS.due("this one is not of one part", x.like(0), -2);
        x.hold(1);
        x.undo();
        CHECKS.due("that one is not of one part", x.like(1), -2);
        CHECKS.due("both are", x.like(0), 4);
        HandleFaces y = Checks.drawn(2, "ab");
        y.hold(0);
        y.shrink(0);
        CHECKS.due("this one has no line", y.like(0), -2);
        CHECKS.due("it is of one part", y.surface(3), 1);
        y.hold(1);
        CHECKS.due("neither has", y.like(1), -2);
        y.undo();
        CHECKS.due("that one has no line", y.like(1), -2);
        HandleFaces none = new HandleFaces();
        none.hold(0);
        CHECKS.due("no posts", none.like(0), -2);
    }

    private static void straight() {
        CHECKS.sentence("STRAIGHT: half of its LINES, an even number, behind");
        // half round: 0 and 2, 1 and 3 at a; 0 and 1, 2 and 3 at b
        CHECKS.due("four lines", Checks.drawn(Checks.tells(2, Checks.times(4, "ab")) + "round b 0 2 1 3;").count(12), 1);
        CHECKS.due("four lines by numbers", Checks.drawn(2, Checks.times(4, "ab")).count(12), 2);
        CHECKS.due("two lines", Checks.drawn(2, "ab", "ab").count(12), 1);
        CHECKS.due("ten lines by numbers: i and i + 5 at both", Checks.drawn(2, Checks.times(10, "ab")).count(12), 5);
        CHECKS.due("twisted ones go as others", Checks.drawn(2, "ab~", "ab", "ab", "ab~").count(12), 2);
        CHECKS.due("two parts and bare posts", Checks.drawn(6, "ab", "ab", "cd", "cd").count(12), 2);
        CHECKS.due("no posts", new HandleFaces().count(12), 0);
        CHECKS.due("bare posts", Checks.drawn(6).count(12), 0);
        CHECKS.sentence("-2: some POST has an odd number");
        CHECKS.due("one line", Checks.drawn(2, "ab").count(12), -2);
        CHECKS.due("three lines", Checks.drawn(2, "ab", "ab", "ab").count(12), -2);
        CHECKS.due("the last posts", Checks.drawn(6, "ab", "ab", "cd", "cd", "ef").count(12), -2);
        CHECKS.due("the first posts", Checks.drawn(6, "ab", "cd", "cd", "ef", "ef").count(12), -2);
    }

    private static void counts() {
        CHECKS.sentence("4 the greatest LENGTH of a FACE, 5 the least one (0 without FACES)");
        CHECKS.due("no faces: greatest", new HandleFaces().count(4), 0);
        CHECKS.due("no faces: least", new HandleFaces().count(5), 0);
        CHECKS.due("a bare post: greatest", Checks.drawn(1).count(4), 0);
        CHECKS.due("one line: greatest", Checks.drawn(2, "ab").count(4), 2);
        String[] longest = {"ab", "ab", "ab", "ab", "ab", "ab", "ab", "ab", "ab", "bc"};
        CHECKS.due("the longest: greatest", Checks.drawn(3, longest).count(4), 20);
        CHECKS.due("one line: least", Checks.drawn(2, "ab").count(5), 2);
        HandleFaces x = Checks.drawn(5, "ab", "ab", "cd", "de", "ec");
        CHECKS.due("greatest is the last", x.count(4), 3);
        CHECKS.due("least is the first", x.count(5), 2);
        HandleFaces y = Checks.drawn(5, "cd", "de", "ec", "ab", "ab");
        CHECKS.due("greatest is the first", y.count(4), 3);
        CHECKS.due("least is the last", y.count(5), 2);
        for (String text : new String[] {"round c 1 2 3;", "round c 1 3 2;"}) {
            // the line to d stands on the one side of the ring, or on the other one
            HandleFaces z = Checks.drawn(Checks.tells(4, "ab", "bc", "ca", "cd") + text);
            CHECKS.due("greatest of two: " + text, z.count(4), 5);
            CHECKS.due("least of two: " + text, z.count(5), 3);
            CHECKS.due("which is the first: " + text, z.face(0, -1), text.contains("2 3") ? 3 : 5);
        }
        CHECKS.due("a ring and a bare post: least", Checks.drawn(4, "ab", "bc", "ca").count(5), 0);
        CHECKS.sentence("3 TWISTED ones (bits)");
        CHECKS.due("all of 10", Checks.drawn(2, Checks.times(10, "ab~")).count(3), 1023);
        CHECKS.due("the last of 3", Checks.drawn(2, "ab", "ab", "ab~").count(3), 4);
        CHECKS.sentence("6 LINES with one FACE on both sides (bits)");
        CHECKS.due("no lines", Checks.drawn(2).count(6), 0);
        CHECKS.due("all of 5", Checks.drawn(6, "ab", "ac", "ad", "ae", "af").count(6), 31);
        CHECKS.due("the last of 4", Checks.drawn(4, "ab", "bc", "ca", "cd").count(6), 8);
        CHECKS.sentence("8 in how many ways it is LIKE itself (-2 as like())");
        CHECKS.due("no posts", new HandleFaces().count(8), -2);
        CHECKS.due("one bare post", Checks.drawn(1).count(8), -2);
        CHECKS.due("two parts", Checks.drawn(3, "ab").count(8), -2);
        CHECKS.due("one line", Checks.drawn(2, "ab").count(8), 4);
        countsOfState();
    }

    private static void countsOfState() {
        CHECKS.sentence("9 bytes on the tape, 10 things that can be undone, 11 SLOTS that hold something");
        HandleFaces x = Checks.drawn(6, Checks.times(10, "ab"));
        CHECKS.due("posts", x.count(0), 6);
        CHECKS.due("lines", x.count(1), 10);
        for (int k = 0; k < 101; k++) {
            x.feed(0, 0, 0, 0, 0);
        }
        CHECKS.due("tape", x.count(9), 2000);
        for (int k = 0; k < 41; k++) {
            x.twist(0);
        }
        CHECKS.due("things that can be undone", x.count(10), 40);
        x.hold(2);
        CHECKS.due("one slot", x.count(11), 1);
        x.hold(2);
        CHECKS.due("the same again", x.count(11), 1);
        x.hold(0);
        x.hold(1);
        CHECKS.due("three slots", x.count(11), 3);
        CHECKS.sentence("count: NONE for others");
        for (int what : outside(13)) {
            CHECKS.due("count(" + what + ")", x.count(what), -1);
            CHECKS.due("count(" + what + ") of no posts", new HandleFaces().count(what), -1);
        }
    }

    private static void noneAheadOfTwo() {
        CHECKS.sentence("Where NONE and -2 could both be told, it is NONE, unless another order is told");
        HandleFaces above = Checks.drawn(4, JUST_ABOVE);
        for (int what : new int[] {LOW, -2, -1, 4, HIGH}) {
            CHECKS.due("all(" + what + ") of more than 20,000", above.all(what), -1);
        }
        HandleFaces parts = Checks.drawn(4, "ab", "cd");
        CHECKS.due("like(0): it holds nothing, two parts", parts.like(0), -1);
        CHECKS.due("like(3): no such one, two parts", parts.like(3), -1);
        CHECKS.due("like(-1): no such one, no line", new HandleFaces().like(-1), -1);
        CHECKS.due("bound(2) without a ring", parts.bound(2), -1);
        CHECKS.due("count(13) of two parts", parts.count(13), -1);
        CHECKS.due("beside(1) of none", Checks.drawn(2, "ab").beside(1), -1);
    }
}
