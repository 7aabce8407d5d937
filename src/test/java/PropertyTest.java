import java.util.ArrayList;
import java.util.List;
import java.util.Random;

/** What must hold of every drawing, whatever it is: tried on random ones, always the same. */
public final class PropertyTest {
    private static final Checks CHECKS = new Checks();
    private static final Random RANDOM = new Random(7);

    public static void main(String[] args) {
        int likes = 0;
        int duals = 0;
        int shrinks = 0;
        for (int k = 0; k < 1500; k++) {
            HandleFaces x = randomDrawing();
            lengthsAndSides(x);
            turning(x);
            layingAndGoing(x);
            duals += dual(x);
            shrinks += shrink(x);
            likes += likeByHand(x);
        }
        System.out.println(duals + " duals, " + shrinks + " shrunk, " + likes + " likenesses by hand");
        CHECKS.due("enough of each", duals > 50 && shrinks > 300 && likes > 100, true);
        CHECKS.end();
    }

    private static HandleFaces randomDrawing() {
        HandleFaces x = new HandleFaces();
        int posts = 2 + RANDOM.nextInt(5);
        StringBuilder text = new StringBuilder();
        for (int post = 0; post < posts; post++) {
            text.append("post ").append((char) ('a' + post)).append(';');
        }
        Checks.read(x, text.toString());
        int lines = 1 + RANDOM.nextInt(10);
        boolean twists = RANDOM.nextBoolean();
        for (int tries = 0; tries < 200 && x.count(1) < lines; tries++) {
            int a = RANDOM.nextInt(posts);
            int b = RANDOM.nextInt(posts);
            x.lay(a, RANDOM.nextInt(Math.max(1, x.round(a, -1))), b, RANDOM.nextInt(Math.max(1, x.round(b, -1))),
                twists && RANDOM.nextBoolean());
        }
        return x;
    }

    private static void lengthsAndSides(HandleFaces x) {
        int sum = 0;
        for (int face = 0; face < x.count(2); face++) {
            sum += x.face(face, -1);
        }
        CHECKS.due("all lengths", sum, 2 * x.count(1));
        for (int line = 0; line < x.count(1); line++) {
            CHECKS.due("lesser and greater", x.line(line, 3) <= x.line(line, 4), true);
            CHECKS.due("beside", x.beside(x.line(line, 3)) >> x.line(line, 4) & 1, 1);
        }
        CHECKS.due("half a handle", x.surface(0) == 1 && (x.surface(2) & 1) != 0, false);
        CHECKS.due("fewer than none", x.surface(1) < 0, false);
        CHECKS.due("bound", x.all(1) == -2 || x.bound(0) <= x.all(1), true);
        CHECKS.due("caps", x.capped() == -2 || x.capped() <= 2 * x.all(1), true);
    }

    private static void turning(HandleFaces x) {
        x.hold(0);
        int self = x.count(8);
        int faces = x.count(2);
        int turns = x.surface(0);
        for (int post = 0; post < x.count(0); post++) {
            if (RANDOM.nextBoolean()) {
                x.flip(post);
            }
        }
        CHECKS.due("faces of one turned over", x.count(2), faces);
        CHECKS.due("turns right turned over", x.surface(0), turns);
        CHECKS.due("like turned over", x.like(0), self);
        x.restore(0);
    }

    private static void layingAndGoing(HandleFaces x) {
        x.hold(1);
        int line = x.lay(0, 0, 1, 0, RANDOM.nextBoolean());
        if (line != -1) {
            int faces = x.without(line, 0);
            x.goes(line);
            CHECKS.due("without", x.count(2), faces);
            CHECKS.due("like without", x.like(1), x.count(8));
        }
        x.restore(1);
    }

    private static int dual(HandleFaces x) {
        x.hold(2);
        int self = x.count(8);
        int faces = x.count(2);
        int posts = x.count(0);
        int turns = x.surface(0);
        int handles = x.surface(1);
        int dual = x.dual();
        if (dual == -1) {
            return 0;
        }
        CHECKS.due("posts of the dual", dual, faces);
        CHECKS.due("faces of the dual", x.count(2), posts);
        CHECKS.due("the dual turns right", x.surface(0), turns);
        CHECKS.due("surface of the dual", x.surface(1), handles);
        CHECKS.due("like itself", x.count(8), self);
        if (x.dual() == posts) {
            CHECKS.due("like the dual of the dual", x.like(2), self);
        }
        x.restore(2);
        return 1;
    }

    private static int shrink(HandleFaces x) {
        x.hold(2);
        int faces = x.count(2);
        int euler = x.surface(2);
        int turns = x.surface(0);
        int parts = x.surface(3);
        boolean bare = x.count(1) == 1;
        if (!x.shrink(RANDOM.nextInt(x.count(1)))) {
            return 0;
        }
        CHECKS.due("faces of one shrunk", x.count(2), faces);
        CHECKS.due("euler of one shrunk", x.surface(2), euler);
        CHECKS.due("parts of one shrunk", x.surface(3), parts);
        CHECKS.due("one shrunk turns right", x.surface(0), turns);
        CHECKS.due("no line is left", x.count(1) == 0, bare);
        x.restore(2);
        return 1;
    }

    /** LIKE by trying all ways to send POSTS, turn them over and begin their ROUNDS. */
    private static int likeByHand(HandleFaces x) {
        int posts = x.count(0);
        if (posts > 4 || x.surface(3) != 1) {
            return 0;
        }
        x.hold(0);
        int change = RANDOM.nextInt(4);
        if (change == 1) {
            x.exchange(0, 0);
        } else if (change == 2) {
            x.twist(0);
        } else if (change == 3) {
            x.flip(0);
            x.twist(0);
            x.flip(1);
        }
        List<List<Integer>> rows = rows(x);
        int[] lines = lines(x);
        int ways = x.like(0);
        x.restore(0);
        List<List<Integer>> otherRows = rows(x);
        int[] otherLines = lines(x);
        int found = 0;
        for (int[] sent : permutations(posts)) {
            for (int turned = 0; turned < 1 << posts; turned++) {
                found += begins(rows, otherRows, lines, otherLines, sent, turned, new int[posts], 0);
            }
        }
        CHECKS.due("like by hand", ways, found);
        return 1;
    }

    private static List<List<Integer>> rows(HandleFaces x) {
        List<List<Integer>> rows = new ArrayList<>();
        for (int post = 0; post < x.count(0); post++) {
            List<Integer> row = new ArrayList<>();
            for (int i = 0; i < x.round(post, -1); i++) {
                row.add(x.round(post, i));
            }
            rows.add(row);
        }
        return rows;
    }

    private static int[] lines(HandleFaces x) {
        int[] lines = new int[3 * x.count(1)];
        for (int k = 0; k < lines.length; k++) {
            lines[k] = x.line(k / 3, k % 3);
        }
        return lines;
    }

    private static List<int[]> permutations(int n) {
        List<int[]> out = new ArrayList<>();
        out.add(new int[0]);
        for (int k = 0; k < n; k++) {
            List<int[]> longer = new ArrayList<>();
            for (int[] p : out) {
                for (int v = 0; v < n; v++) {
                    int next = v;
                    if (java.util.Arrays.stream(p).noneMatch(u -> u == next)) {
                        int[] q = java.util.Arrays.copyOf(p, k + 1);
                        q[k] = v;
                        longer.add(q);
                    }
                }
            }
            out = longer;
        }
        return out;
    }

    private static int begins(List<List<Integer>> rows, List<List<Integer>> otherRows, int[] lines, int[] otherLines,
            int[] sent, int turned, int[] begin, int post) {
        if (post == rows.size()) {
            return fits(rows, otherRows, lines, otherLines, sent, turned, begin) ? 1 : 0;
        }
        int n = rows.get(post).size();
        if (n != otherRows.get(sent[post]).size()) {
            return 0;
        }
        int found = 0;
        for (int b = 0; b < n; b++) {
            begin[post] = b;
            found += begins(rows, otherRows, lines, otherLines, sent, turned, begin, post + 1);
        }
        return found;
    }

    private static boolean fits(List<List<Integer>> rows, List<List<Integer>> otherRows, int[] lines, int[] otherLines,
            int[] sent, int turned, int[] begin) {
        int[] image = new int[lines.length / 3];
        java.util.Arrays.fill(image, -1);
        for (int post = 0; post < rows.size(); post++) {
            List<Integer> row = rows.get(post);
            List<Integer> other = otherRows.get(sent[post]);
            int n = row.size();
            for (int i = 0; i < n; i++) {
                int to = other.get(((turned >> post & 1) == 0 ? begin[post] + i : begin[post] - i + n) % n);
                int line = row.get(i);
                if (image[line] != -1 && image[line] != to) {
                    return false;
                }
                image[line] = to;
            }
        }
        for (int line = 0; line < image.length; line++) {
            int odd = (turned >> lines[3 * line] ^ turned >> lines[3 * line + 1]) & 1;
            if ((lines[3 * line + 2] ^ odd) != otherLines[3 * image[line] + 2]) {
                return false;
            }
        }
        return true;
    }
}
