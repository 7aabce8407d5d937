import java.util.ArrayDeque;
import java.util.ArrayList;
import java.util.Arrays;
import java.util.Collections;
import java.util.Deque;
import java.util.HashMap;
import java.util.HashSet;
import java.util.LinkedHashMap;
import java.util.List;
import java.util.Map;
import java.util.Set;

/**
 * The document once more, word by word and slowly, made without a look at the class: random runs ask both.
 * SKIP: this model does not know (it would take too long).
 */
final class Model {
    static final int NONE = -1;
    static final long SKIP = Long.MIN_VALUE;

    record Line(int first, int second, boolean twisted) {
        int other(int post) {
            return post == first ? second : first;
        }

        boolean at(int post) {
            return post == first || post == second;
        }

        boolean joinsSame(Line o) {
            return o.at(first) && o.at(second);
        }
    }

    record Stand(int post, int line, boolean forth) {
    }

    static final class State {
        int posts = 0;
        List<Line> lines = new ArrayList<>();
        List<List<Integer>> rounds = new ArrayList<>();

        State copy() {
            State s = new State();
            s.posts = posts;
            s.lines = new ArrayList<>(lines);
            for (List<Integer> r : rounds) {
                s.rounds.add(new ArrayList<>(r));
            }
            return s;
        }

        void defaultRounds() {
            rounds = new ArrayList<>();
            for (int p = 0; p < posts; p++) {
                List<Integer> r = new ArrayList<>();
                for (int l = 0; l < lines.size(); l++) {
                    if (lines.get(l).at(p)) {
                        r.add(l);
                    }
                }
                rounds.add(r);
            }
        }

        Stand next(Stand x) {
            Line l = lines.get(x.line());
            int there = l.other(x.post());
            boolean sense = l.twisted() != x.forth();
            List<Integer> r = rounds.get(there);
            int n = r.size();
            int i = (r.indexOf(x.line()) + (sense ? 1 : n - 1)) % n;
            return new Stand(there, r.get(i), sense);
        }

        Stand otherWay(Stand x) {
            Line l = lines.get(x.line());
            boolean comes = l.twisted() != x.forth();
            return new Stand(l.other(x.post()), x.line(), !comes);
        }

        List<Stand> stands() {
            List<Stand> all = new ArrayList<>();
            for (int sense = 0; sense < 2; sense++) {
                for (int l = 0; l < lines.size(); l++) {
                    all.add(new Stand(lines.get(l).first(), l, sense == 0));
                    all.add(new Stand(lines.get(l).second(), l, sense == 0));
                }
            }
            return all;
        }

        List<List<Stand>> faces() {
            List<List<Stand>> faces = new ArrayList<>();
            Set<Stand> seen = new HashSet<>();
            for (Stand start : stands()) {
                if (seen.contains(start)) {
                    continue;
                }
                List<Stand> walk = new ArrayList<>();
                Stand x = start;
                do {
                    walk.add(x);
                    x = next(x);
                } while (!x.equals(start));
                seen.addAll(walk);
                for (Stand y : walk) {
                    seen.add(otherWay(y));
                }
                faces.add(walk);
            }
            for (int p = 0; p < posts; p++) {
                if (rounds.get(p).isEmpty()) {
                    faces.add(new ArrayList<>());
                }
            }
            return faces;
        }

        int parts() {
            int parts = 0;
            boolean[] seen = new boolean[posts];
            for (int p = 0; p < posts; p++) {
                if (!seen[p]) {
                    parts++;
                    mark(p, seen);
                }
            }
            return parts;
        }

        private void mark(int p, boolean[] seen) {
            seen[p] = true;
            for (Line l : lines) {
                if (l.at(p) && !seen[l.other(p)]) {
                    mark(l.other(p), seen);
                }
            }
        }

        boolean turnsRight() {
            for (int turned = 0; turned < 1 << posts; turned++) {
                boolean right = true;
                for (Line l : lines) {
                    boolean odd = (turned >> l.first() & 1) != (turned >> l.second() & 1);
                    right &= l.twisted() == odd;
                }
                if (right) {
                    return true;
                }
            }
            return false;
        }

        int euler() {
            return posts - lines.size() + faces().size();
        }

        void turnOver(int p) {
            Collections.reverse(rounds.get(p));
            for (int l : rounds.get(p)) {
                Line o = lines.get(l);
                lines.set(l, new Line(o.first(), o.second(), !o.twisted()));
            }
        }

        void removeLine(int line) {
            lines.remove(line);
            for (List<Integer> r : rounds) {
                r.remove((Integer) line);
                r.replaceAll(l -> l > line ? l - 1 : l);
            }
        }

        List<Integer> sides(int line) {
            List<Integer> found = new ArrayList<>();
            List<List<Stand>> faces = faces();
            for (int f = 0; f < faces.size(); f++) {
                for (Stand x : faces.get(f)) {
                    if (x.line() == line) {
                        found.add(f);
                    }
                }
            }
            Collections.sort(found);
            return found;
        }
    }

    State now = new State();
    Deque<State> past = new ArrayDeque<>();
    State[] slots = new State[3];
    byte[] tape = new byte[0];
    int place = NONE;

    private void keep() {
        past.addLast(now.copy());
        if (past.size() > 40) {
            past.removeFirst();
        }
    }

    int feed(int... words) {
        if (tape.length + 20 > 2000) {
            return NONE;
        }
        byte[] more = Arrays.copyOf(tape, tape.length + 20);
        for (int i = 0; i < 20; i++) {
            more[tape.length + i] = (byte) (words[i / 4] >>> 8 * (3 - i % 4));
        }
        tape = more;
        return tape.length;
    }

    int back(int n) {
        if (n < 0 || n > tape.length) {
            return NONE;
        }
        tape = Arrays.copyOf(tape, tape.length - n);
        return tape.length;
    }

    static final class Fault extends Exception {
        private static final long serialVersionUID = 1;
        final int number;
        final int place;

        Fault(int number, int place) {
            this.number = number;
            this.place = place;
        }
    }

    record Token(char kind, String text, int place) {
    }

    private List<Token> tokens() {
        List<Token> out = new ArrayList<>();
        String s = new String(tape, java.nio.charset.StandardCharsets.ISO_8859_1);
        java.util.regex.Matcher m = java.util.regex.Pattern.compile("[a-z]+|[0-9]+|;|[^\\t\\n\\r ]").matcher(s);
        while (m.find()) {
            String t = m.group();
            char kind = 'x';
            if (t.equals(";")) {
                kind = ';';
            } else if (t.matches("post|line|round|twisted")) {
                kind = t.charAt(0);
            } else if (t.matches("[a-z]{1,8}")) {
                kind = 'N';
            } else if (t.matches("[0-9]{1,4}")) {
                kind = 'I';
            }
            out.add(new Token(kind, t, m.start()));
        }
        return out;
    }

    /** A tell, as its tokens. */
    private List<List<Token>> tells() throws Fault {
        List<Token> all = tokens();
        List<List<Token>> tells = new ArrayList<>();
        List<Token> tell = new ArrayList<>();
        String sofar = "";
        int posts = 0;
        int lines = 0;
        for (int i = 0; i < all.size(); i++) {
            Token t = all.get(i);
            sofar += t.kind();
            if (!prefix(sofar)) {
                throw new Fault(1, t.place());
            }
            if (i >= 400 || t.kind() == 'p' && ++posts > 6 || t.kind() == 'l' && ++lines > 10) {
                throw new Fault(2, t.place());
            }
            tell.add(t);
            if (t.kind() == ';') {
                tells.add(tell);
                tell = new ArrayList<>();
                sofar = "";
            }
        }
        if (!tell.isEmpty()) {
            throw new Fault(1, tape.length);
        }
        return tells;
    }

    private static boolean prefix(String s) {
        return s.matches("p|pN|pN;|l|lN|lNN|lNNt|lNNt;|lNN;|r|rN|rNI+|rNI+;");
    }

    private State parse() throws Fault {
        List<List<Token>> tells = tells();
        Map<String, Integer> names = new LinkedHashMap<>();
        State s = new State();
        for (List<Token> t : tells) {
            if (t.get(0).kind() == 'p') {
                names.putIfAbsent(t.get(1).text(), s.posts);
                s.posts++;
            }
        }
        for (List<Token> t : tells) {
            if (t.get(0).kind() == 'l') {
                s.lines.add(new Line(names.getOrDefault(t.get(1).text(), -1), names.getOrDefault(t.get(2).text(), -1),
                        t.get(3).kind() == 't'));
            }
        }
        Set<String> told = new HashSet<>();
        Map<Integer, List<Integer>> rounds = new HashMap<>();
        for (List<Token> t : tells) {
            char kind = t.get(0).kind();
            Token name = t.get(1);
            if (kind == 'p') {
                if (!told.add(name.text())) {
                    throw new Fault(3, name.place());
                }
                continue;
            }
            if (!names.containsKey(name.text())) {
                throw new Fault(4, name.place());
            }
            if (kind == 'l') {
                Token second = t.get(2);
                if (second.text().equals(name.text())) {
                    throw new Fault(3, second.place());
                }
                if (!names.containsKey(second.text())) {
                    throw new Fault(4, second.place());
                }
                continue;
            }
            int post = names.get(name.text());
            List<Integer> row = new ArrayList<>();
            for (Token i : t.subList(2, t.size() - 1)) {
                int line = Integer.parseInt(i.text());
                if (line >= s.lines.size() || !s.lines.get(line).at(post) || row.contains(line)) {
                    throw new Fault(5, i.place());
                }
                row.add(line);
            }
            if (row.size() < s.lines.stream().filter(l -> l.at(post)).count()) {
                throw new Fault(6, t.get(t.size() - 1).place());
            }
            rounds.put(post, row);
        }
        s.defaultRounds();
        rounds.forEach((p, row) -> s.rounds.set(p, row));
        return s;
    }

    int read() {
        try {
            now = parse();
            past.clear();
            slots = new State[3];
            place = NONE;
            return 0;
        } catch (Fault f) {
            place = f.place;
            return f.number;
        } finally {
            tape = new byte[0];
        }
    }

    private boolean isPost(int p) {
        return p >= 0 && p < now.posts;
    }

    private boolean isLine(int l) {
        return l >= 0 && l < now.lines.size();
    }

    private boolean isCorner(int p, int i) {
        int n = now.rounds.get(p).size();
        return n == 0 ? i == 0 : i >= 0 && i < n;
    }

    int lay(int a, int i, int b, int j, boolean twisted) {
        if (now.lines.size() == 10 || !isPost(a) || !isPost(b) || a == b || !isCorner(a, i) || !isCorner(b, j)) {
            return NONE;
        }
        keep();
        int line = now.lines.size();
        now.lines.add(new Line(a, b, twisted));
        now.rounds.get(a).add(now.rounds.get(a).isEmpty() ? 0 : i + 1, line);
        now.rounds.get(b).add(now.rounds.get(b).isEmpty() ? 0 : j + 1, line);
        return line;
    }

    boolean goes(int line) {
        if (!isLine(line)) {
            return false;
        }
        keep();
        now.removeLine(line);
        return true;
    }

    boolean twist(int line) {
        if (!isLine(line)) {
            return false;
        }
        keep();
        Line l = now.lines.get(line);
        now.lines.set(line, new Line(l.first(), l.second(), !l.twisted()));
        return true;
    }

    boolean flip(int post) {
        if (!isPost(post)) {
            return false;
        }
        keep();
        now.turnOver(post);
        return true;
    }

    boolean exchange(int post, int i) {
        if (!isPost(post)) {
            return false;
        }
        int n = now.rounds.get(post).size();
        if (n < 3 || i < 0 || i >= n) {
            return false;
        }
        keep();
        Collections.swap(now.rounds.get(post), i, (i + 1) % n);
        return true;
    }

    private static List<List<Integer>> rows(List<Integer> lines) {
        List<Integer> sorted = new ArrayList<>(lines);
        Collections.sort(sorted);
        List<List<Integer>> out = new ArrayList<>();
        if (sorted.isEmpty()) {
            out.add(sorted);
            return out;
        }
        permute(new ArrayList<>(sorted.subList(0, 1)), sorted.subList(1, sorted.size()), out);
        return out;
    }

    private static void permute(List<Integer> head, List<Integer> rest, List<List<Integer>> out) {
        if (rest.isEmpty()) {
            out.add(new ArrayList<>(head));
        }
        for (int i = 0; i < rest.size(); i++) {
            List<Integer> more = new ArrayList<>(head);
            more.add(rest.get(i));
            List<Integer> less = new ArrayList<>(rest);
            less.remove(i);
            permute(more, less, out);
        }
    }

    private long howMany() {
        long many = 1;
        for (List<Integer> r : now.rounds) {
            for (int k = 2; k < r.size(); k++) {
                many *= k;
            }
        }
        return many;
    }

    /** Every one of ALL ROUNDS, in order. */
    private List<List<List<Integer>>> allRounds() {
        List<List<List<Integer>>> out = new ArrayList<>();
        out.add(new ArrayList<>());
        for (List<Integer> r : now.rounds) {
            List<List<List<Integer>>> longer = new ArrayList<>();
            List<List<Integer>> rows = rows(r);
            for (List<List<Integer>> head : out) {
                for (List<Integer> row : rows) {
                    List<List<Integer>> more = new ArrayList<>(head);
                    more.add(row);
                    longer.add(more);
                }
            }
            out = longer;
        }
        return out;
    }

    /** HANDLES of each of ALL ROUNDS. */
    private List<Integer> needs() {
        List<Integer> out = new ArrayList<>();
        State s = untwisted();
        int parts = s.parts();
        for (List<List<Integer>> rounds : allRounds()) {
            s.rounds = rounds;
            out.add(parts - s.euler() / 2);
        }
        return out;
    }

    private State untwisted() {
        State s = now.copy();
        s.lines.replaceAll(l -> new Line(l.first(), l.second(), false));
        return s;
    }

    int lessen() {
        if (howMany() > 20000) {
            return NONE;
        }
        List<Integer> needs = needs();
        int least = Collections.min(needs);
        List<List<Integer>> best = allRounds().get(needs.indexOf(least));
        keep();
        now = untwisted();
        now.rounds = new ArrayList<>();
        best.forEach(r -> now.rounds.add(new ArrayList<>(r)));
        return least;
    }

    long all(int what) {
        if (what < 0 || what > 3) {
            return NONE;
        }
        if (what == 0) {
            return howMany();
        }
        if (howMany() > 20000) {
            return -2;
        }
        List<Integer> needs = needs();
        int least = Collections.min(needs);
        return what == 1 ? least : what == 2 ? Collections.max(needs) : needs.indexOf(least);
    }

    int needing(int handles) {
        return howMany() > 20000 ? -2 : Collections.frequency(needs(), handles);
    }

    long ordered(int n, int post, int i) {
        if (n < 0 || n >= howMany() || !isPost(post) || i < 0 || i >= now.rounds.get(post).size()) {
            return NONE;
        }
        return howMany() > 20000 ? SKIP : allRounds().get(n).get(post).get(i);
    }

    long capped() {
        long ways = howMany();
        for (int k = 0; k < now.lines.size() - (now.posts - now.parts()); k++) {
            ways *= 2;
        }
        if (ways > 20000) {
            return -2;
        }
        if (howMany() << now.lines.size() > 20000) {
            return SKIP;
        }
        int least = Integer.MAX_VALUE;
        State s = now.copy();
        for (List<List<Integer>> rounds : allRounds()) {
            s.rounds = rounds;
            for (int twists = 0; twists < 1 << s.lines.size(); twists++) {
                for (int l = 0; l < s.lines.size(); l++) {
                    Line o = s.lines.get(l);
                    s.lines.set(l, new Line(o.first(), o.second(), (twists >> l & 1) != 0));
                }
                least = Math.min(least, 2 * s.parts() - s.euler());
            }
        }
        return least;
    }

    int dual() {
        List<List<Stand>> faces = now.faces();
        if (faces.size() > 6 || faces.stream().anyMatch(List::isEmpty)) {
            return NONE;
        }
        State s = new State();
        s.posts = faces.size();
        for (int l = 0; l < now.lines.size(); l++) {
            List<Integer> sides = now.sides(l);
            if (sides.get(0).equals(sides.get(1))) {
                return NONE;
            }
            int line = l;
            int one = faces.get(sides.get(0)).stream().filter(x -> x.line() == line).findFirst().get().post();
            int two = faces.get(sides.get(1)).stream().filter(x -> x.line() == line).findFirst().get().post();
            s.lines.add(new Line(sides.get(0), sides.get(1), one == two));
        }
        for (List<Stand> f : faces) {
            List<Integer> r = new ArrayList<>();
            f.forEach(x -> r.add(x.line()));
            s.rounds.add(r);
        }
        keep();
        now = s;
        return s.posts;
    }

    boolean shrink(int line) {
        if (!isLine(line)) {
            return false;
        }
        for (int l = 0; l < now.lines.size(); l++) {
            if (l != line && now.lines.get(l).joinsSame(now.lines.get(line))) {
                return false;
            }
        }
        keep();
        int stays = now.lines.get(line).first();
        int gone = now.lines.get(line).second();
        if (now.lines.get(line).twisted()) {
            now.turnOver(gone);
        }
        List<Integer> moved = new ArrayList<>(now.rounds.get(gone));
        Collections.rotate(moved, -moved.indexOf(line));
        moved.remove(0);
        List<Integer> row = now.rounds.get(stays);
        int at = row.indexOf(line);
        row.remove(at);
        row.addAll(at, moved);
        now.lines.replaceAll(l -> new Line(renumber(l.first(), gone, stays), renumber(l.second(), gone, stays),
                l.twisted()));
        now.rounds.remove(gone);
        now.posts--;
        now.removeLine(line);
        return true;
    }

    private static int renumber(int post, int gone, int stays) {
        int p = post == gone ? stays : post;
        return p > gone ? p - 1 : p;
    }

    boolean undo() {
        if (past.isEmpty()) {
            return false;
        }
        now = past.removeLast();
        return true;
    }

    int line(int line, int what) {
        if (!isLine(line)) {
            return NONE;
        }
        Line l = now.lines.get(line);
        return switch (what) {
            case 0 -> l.first();
            case 1 -> l.second();
            case 2 -> l.twisted() ? 1 : 0;
            case 3 -> now.sides(line).get(0);
            case 4 -> now.sides(line).get(1);
            default -> NONE;
        };
    }

    int round(int post, int i) {
        if (!isPost(post)) {
            return NONE;
        }
        List<Integer> r = now.rounds.get(post);
        return i == NONE ? r.size() : i >= 0 && i < r.size() ? r.get(i) : NONE;
    }

    int face(int face, int i) {
        List<List<Stand>> faces = now.faces();
        if (face == NONE) {
            return faces.size();
        }
        if (face < 0 || face >= faces.size()) {
            return NONE;
        }
        List<Stand> f = faces.get(face);
        return i == NONE ? f.size() : i >= 0 && i < f.size() ? f.get(i).line() : NONE;
    }

    int surface(int what) {
        return switch (what) {
            case 0 -> now.turnsRight() ? 1 : 0;
            case 1 -> now.turnsRight() ? now.parts() - now.euler() / 2 : 2 * now.parts() - now.euler();
            case 2 -> now.euler();
            case 3 -> now.parts();
            default -> -100000;
        };
    }

    /** How many RINGS by their length: all sets of LINES are tried. */
    private int[] rings() {
        int[] byLength = new int[11];
        for (int set = 1; set < 1 << now.lines.size(); set++) {
            State s = new State();
            s.posts = now.posts;
            int[] degrees = new int[now.posts];
            for (int l = 0; l < now.lines.size(); l++) {
                if ((set >> l & 1) != 0) {
                    s.lines.add(now.lines.get(l));
                    degrees[now.lines.get(l).first()]++;
                    degrees[now.lines.get(l).second()]++;
                }
            }
            int bare = (int) Arrays.stream(degrees).filter(d -> d == 0).count();
            if (Arrays.stream(degrees).allMatch(d -> d == 0 || d == 2) && s.parts() == 1 + bare) {
                byLength[s.lines.size()]++;
            }
        }
        return byLength;
    }

    private int girth() {
        int[] rings = rings();
        for (int k = 0; k < rings.length; k++) {
            if (rings[k] != 0) {
                return k;
            }
        }
        return -2;
    }

    int bound(int what) {
        if (what == 1) {
            return girth();
        }
        if (what != 0) {
            return NONE;
        }
        int girth = girth();
        if (girth == -2 || now.parts() != 1) {
            return 0;
        }
        int lines = now.lines.size();
        double half = (2 - now.posts + lines - Math.floor(2.0 * lines / girth)) / 2;
        return (int) Math.max(0, Math.ceil(half));
    }

    int without(int line, int what) {
        if (!isLine(line) || what < 0 || what > 2) {
            return -100000;
        }
        State s = now.copy();
        s.removeLine(line);
        return what == 0 ? s.faces().size() : what == 1 ? s.parts() : s.euler();
    }

    int beside(int face) {
        int faces = now.faces().size();
        if (face < 0 || face >= faces) {
            return NONE;
        }
        int bits = 0;
        for (int l = 0; l < now.lines.size(); l++) {
            List<Integer> sides = now.sides(l);
            if (sides.contains(face)) {
                bits |= 1 << (sides.get(0) == face ? sides.get(1) : sides.get(0));
            }
        }
        return bits;
    }

    int colours() {
        int n = now.faces().size();
        int[] beside = new int[n];
        for (int f = 0; f < n; f++) {
            beside[f] = beside(f);
            if ((beside[f] >> f & 1) != 0) {
                return -2;
            }
        }
        // the fewest sets of which none has two BESIDE one another, by taking such sets away one after another
        Set<Integer> left = new HashSet<>(List.of((1 << n) - 1));
        for (int k = 0;; k++) {
            if (left.contains(0)) {
                return k;
            }
            Set<Integer> less = new HashSet<>();
            for (int rest : left) {
                int lowest = Integer.lowestOneBit(rest);
                for (int more = rest & ~lowest;; more = (more - 1) & rest & ~lowest) {
                    int set = lowest | more;
                    boolean free = true;
                    for (int f = 0; f < n; f++) {
                        free &= (set >> f & 1) == 0 || (beside[f] & set) == 0;
                    }
                    if (free) {
                        less.add(rest & ~set);
                    }
                    if (more == 0) {
                        break;
                    }
                }
            }
            left = less;
        }
    }

    /** What one sees of a drawing from a stand on: the same from two just if one can be sent to the other. */
    private static String seenFrom(State s, Stand root) {
        Map<Stand, Integer> numbers = new HashMap<>();
        List<Stand> queue = new ArrayList<>(List.of(root));
        numbers.put(root, 0);
        StringBuilder out = new StringBuilder();
        for (int k = 0; k < queue.size(); k++) {
            Stand x = queue.get(k);
            for (Stand y : List.of(new Stand(x.post(), x.line(), !x.forth()), s.next(x), s.otherWay(x))) {
                if (!numbers.containsKey(y)) {
                    numbers.put(y, queue.size());
                    queue.add(y);
                }
                out.append(numbers.get(y)).append(' ');
            }
        }
        return out.toString();
    }

    private static int ways(State a, State b) {
        if (a.parts() != 1 || b.parts() != 1 || a.lines.isEmpty() || b.lines.isEmpty()) {
            return -2;
        }
        String ours = seenFrom(a, a.stands().get(0));
        return (int) b.stands().stream().filter(x -> seenFrom(b, x).equals(ours)).count();
    }

    int like(int slot) {
        return slot < 0 || slot > 2 || slots[slot] == null ? NONE : ways(now, slots[slot]);
    }

    boolean hold(int slot) {
        if (slot < 0 || slot > 2) {
            return false;
        }
        slots[slot] = now.copy();
        return true;
    }

    boolean restore(int slot) {
        if (slot < 0 || slot > 2 || slots[slot] == null) {
            return false;
        }
        now = slots[slot].copy();
        past.clear();
        return true;
    }

    private int straight() {
        for (List<Integer> r : now.rounds) {
            if (r.size() % 2 != 0) {
                return -2;
            }
        }
        Set<List<Integer>> seen = new HashSet<>();
        int found = 0;
        for (int l = 0; l < now.lines.size(); l++) {
            List<Integer> start = List.of(now.lines.get(l).first(), l);
            if (seen.contains(start)) {
                continue;
            }
            found++;
            List<Integer> x = start;
            do {
                int there = now.lines.get(x.get(1)).other(x.get(0));
                seen.add(x);
                seen.add(List.of(there, x.get(1)));
                List<Integer> r = now.rounds.get(there);
                x = List.of(there, r.get((r.indexOf(x.get(1)) + r.size() / 2) % r.size()));
            } while (!x.equals(start));
        }
        return found;
    }

    int count(int what) {
        List<List<Stand>> faces = now.faces();
        int bits = 0;
        for (int l = 0; l < now.lines.size(); l++) {
            if (what == 3 && now.lines.get(l).twisted()) {
                bits |= 1 << l;
            }
            if (what == 6 && now.sides(l).get(0).equals(now.sides(l).get(1))) {
                bits |= 1 << l;
            }
        }
        return switch (what) {
            case 0 -> now.posts;
            case 1 -> now.lines.size();
            case 2 -> faces.size();
            case 3, 6 -> bits;
            case 4 -> faces.stream().mapToInt(List::size).max().orElse(0);
            case 5 -> faces.stream().mapToInt(List::size).min().orElse(0);
            case 7 -> Arrays.stream(rings()).sum();
            case 8 -> ways(now, now);
            case 9 -> tape.length;
            case 10 -> past.size();
            case 11 -> (int) Arrays.stream(slots).filter(s -> s != null).count();
            case 12 -> straight();
            default -> NONE;
        };
    }
}
