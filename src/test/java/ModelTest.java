import java.nio.charset.StandardCharsets;
import java.util.Random;

/** Random runs of calls, each answered by the class and by the model of the document; the seeds are always the same. */
public final class ModelTest {
    private static final int RUNS = 400;
    private static final int CALLS = 120;
    private final Checks checks = new Checks();
    private final Random random;
    private final HandleFaces x = new HandleFaces();
    private final Model m = new Model();
    private final StringBuilder story = new StringBuilder();

    private ModelTest(long seed) {
        random = new Random(seed);
    }

    public static void main(String[] args) {
        int runs = args.length > 0 ? Integer.parseInt(args[0]) : RUNS;
        long first = args.length > 1 ? Long.parseLong(args[1]) : 0;
        int wrong = 0;
        for (int run = 0; run < runs; run++) {
            ModelTest test = new ModelTest(first + run);
            if (!test.run()) {
                System.out.println("seed " + (first + run) + " after:" + test.story);
                wrong++;
                if (wrong > 3) {
                    break;
                }
            }
        }
        System.out.println(wrong == 0 ? runs + " runs are as due" : wrong + " runs are not as due");
        System.exit(wrong == 0 ? 0 : 1);
    }

    private boolean run() {
        readText();
        for (int call = 0; call < CALLS && checks.isRight(); call++) {
            int pick = random.nextInt(100);
            if (pick < 4) {
                readText();
            } else if (pick < 38) {
                change();
            } else if (pick < 48) {
                keep();
            } else if (pick < 58) {
                askDear();
            } else {
                ask();
            }
        }
        return checks.isRight();
    }

    private void due(String call, long got, long want) {
        story.append(' ').append(call).append('=').append(got);
        if (want != Model.SKIP) {
            checks.due(call, got, want);
        }
    }

    private void due(String call, boolean got, boolean want) {
        due(call, got ? 1 : 0, want ? 1 : 0);
    }

    private int some(int limit) {
        int n = random.nextInt(limit + 2) - 1;
        return random.nextInt(60) == 0 ? random.nextInt() : n;
    }

    private int good(int limit) {
        return random.nextInt(12) == 0 ? some(limit) : random.nextInt(Math.max(1, limit));
    }

    private void readText() {
        byte[] bytes = text().getBytes(StandardCharsets.ISO_8859_1);
        for (int at = 0; at < bytes.length; at += 20) {
            int a = Checks.word(bytes, at);
            int b = Checks.word(bytes, at + 4);
            int c = Checks.word(bytes, at + 8);
            int d = Checks.word(bytes, at + 12);
            int e = Checks.word(bytes, at + 16);
            due("feed", x.feed(a, b, c, d, e), m.feed(a, b, c, d, e));
        }
        int n = random.nextInt(10) == 0 ? some(20) : (20 - bytes.length % 20) % 20;
        due("back(" + n + ")", x.back(n), m.back(n));
        story.append(" [").append(new String(m.tape, StandardCharsets.ISO_8859_1)).append("]");
        due("read", x.read(), m.read());
        due("place", x.place(), m.place);
    }

    private String text() {
        int posts = random.nextInt(20) == 0 ? random.nextInt(9) : 2 + random.nextInt(5);
        int lines = random.nextInt(20) == 0 ? random.nextInt(14) : random.nextInt(11);
        boolean twists = random.nextInt(3) != 0;
        StringBuilder s = new StringBuilder();
        for (int p = 0; p < posts; p++) {
            s.append("post ").append(name(p)).append(';').append(blanks());
        }
        int[] ends = new int[2 * lines];
        for (int l = 0; l < lines && posts > 1; l++) {
            ends[2 * l] = random.nextInt(posts);
            ends[2 * l + 1] = (ends[2 * l] + 1 + random.nextInt(posts - 1)) % posts;
            s.append("line ").append(name(ends[2 * l])).append(' ').append(name(ends[2 * l + 1]));
            s.append(twists && random.nextBoolean() ? " twisted;" : ";").append(blanks());
        }
        for (int p = 0; p < posts && posts > 1; p++) {
            for (int times = random.nextInt(3); times > 0; times--) {
                tellRound(s, p, ends);
            }
        }
        for (int times = random.nextInt(4) == 0 ? 1 + random.nextInt(2) : 0; times > 0 && s.length() > 0; times--) {
            spoil(s);
        }
        return s.toString();
    }

    private void tellRound(StringBuilder s, int post, int[] ends) {
        java.util.List<Integer> row = new java.util.ArrayList<>();
        for (int arm = 0; arm < ends.length; arm++) {
            if (ends[arm] == post) {
                row.add(arm / 2);
            }
        }
        if (row.isEmpty()) {
            return;
        }
        java.util.Collections.shuffle(row, random);
        if (random.nextInt(25) == 0) {
            row.remove(0);
        }
        if (random.nextInt(25) == 0) {
            row.add(random.nextInt(12));
        }
        StringBuilder tell = new StringBuilder("round " + name(post));
        for (int l : row) {
            tell.append(' ').append(random.nextInt(20) == 0 ? "00" : "").append(l);
        }
        tell.append(';');
        if (random.nextInt(4) == 0) {
            s.insert(0, tell);
        } else {
            s.append(tell);
        }
    }

    private void spoil(StringBuilder s) {
        String[] words = {"post", "line", "round", "twisted", "a", "b", "zz", "abcdefgh", "abcdefghi", "7", "0", "1234",
            "12345", ";", " ", "\t", "\n", "\r", "\0", "\u00ff", "A", "post q;", "post a;", "line a b;", "line a a;",
            "round a 0;", "line a zz;"};
        String word = words[random.nextInt(words.length)];
        int at = random.nextInt(s.length());
        if (random.nextInt(3) == 0) {
            s.deleteCharAt(at);
        } else if (random.nextInt(3) == 0) {
            s.insert(s.lastIndexOf(";", at) + 1, word);
        } else {
            s.insert(at, random.nextBoolean() ? word : " " + word + " ");
        }
    }

    private String name(int post) {
        return String.valueOf((char) ('a' + post)).repeat(1 + post % 3);
    }

    private String blanks() {
        return new String[] {"", " ", "\n", "\t ", "\r\n"}[random.nextInt(5)];
    }

    private void change() {
        int posts = m.now.posts;
        int lines = m.now.lines.size();
        int line = good(lines);
        int a = good(posts);
        int i = good(4);
        switch (random.nextInt(13)) {
            case 0, 1, 2 -> {
                int b = good(posts);
                int j = good(4);
                boolean twisted = random.nextInt(3) == 0;
                due("lay(" + a + "," + i + "," + b + "," + j + "," + twisted + ")", x.lay(a, i, b, j, twisted),
                        m.lay(a, i, b, j, twisted));
            }
            case 3, 4 -> due("goes(" + line + ")", x.goes(line), m.goes(line));
            case 5 -> due("twist(" + line + ")", x.twist(line), m.twist(line));
            case 6 -> due("flip(" + a + ")", x.flip(a), m.flip(a));
            case 7, 8 -> due("exchange(" + a + "," + i + ")", x.exchange(a, i), m.exchange(a, i));
            case 9 -> {
                if (random.nextInt(3) == 0) {
                    due("lessen", x.lessen(), m.lessen());
                }
            }
            case 10, 11 -> due("dual", x.dual(), m.dual());
            default -> {
                if (random.nextInt(3) == 0) {
                    due("shrink(" + line + ")", x.shrink(line), m.shrink(line));
                }
            }
        }
    }

    private void keep() {
        int slot = good(3);
        switch (random.nextInt(4)) {
            case 0 -> due("hold(" + slot + ")", x.hold(slot), m.hold(slot));
            case 1 -> {
                if (random.nextInt(3) == 0) {
                    due("restore(" + slot + ")", x.restore(slot), m.restore(slot));
                }
            }
            case 2 -> due("like(" + slot + ")", x.like(slot), m.like(slot));
            default -> due("undo", x.undo(), m.undo());
        }
    }

    private void askDear() {
        int what = some(4);
        switch (random.nextInt(5)) {
            case 0 -> due("all(" + what + ")", x.all(what), m.all(what));
            case 1 -> due("needing(" + what + ")", x.needing(what), m.needing(what));
            case 2 -> {
                int n = random.nextInt(4) == 0 ? some(20000) : good(64);
                int post = good(m.now.posts);
                int i = good(4);
                due("ordered(" + n + "," + post + "," + i + ")", x.ordered(n, post, i), m.ordered(n, post, i));
            }
            case 3 -> due("capped", x.capped(), m.capped());
            default -> due("bound(" + what + ")", x.bound(what), m.bound(what));
        }
    }

    private void ask() {
        int line = good(m.now.lines.size());
        int post = good(m.now.posts);
        int face = some(6);
        int what = some(5);
        int i = some(10);
        switch (random.nextInt(9)) {
            case 0 -> due("line(" + line + "," + what + ")", x.line(line, what), m.line(line, what));
            case 1 -> due("round(" + post + "," + i + ")", x.round(post, i), m.round(post, i));
            case 2, 3 -> due("face(" + face + "," + i + ")", x.face(face, i), m.face(face, i));
            case 4 -> due("surface(" + what + ")", x.surface(what), m.surface(what));
            case 5 -> due("without(" + line + "," + what + ")", x.without(line, what), m.without(line, what));
            case 6 -> due("beside(" + face + ")", x.beside(face), m.beside(face));
            case 7 -> due("colours", x.colours(), m.colours());
            default -> {
                int count = some(13);
                due("count(" + count + ")", x.count(count), m.count(count));
            }
        }
    }
}
