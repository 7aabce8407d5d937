import java.util.ArrayList;
import java.util.List;
import java.util.Random;

/**
 * ALL ROUNDS and CAPPED of networks with many orders, which the model of the document leaves out: each order and each
 * way to twist is gone through here, and faces are counted as edges of bands that are glued together, not by walks.
 */
public final class WideTest {
    private static final Checks CHECKS = new Checks();
    private static final int MOST = 20000;
    private static final int NETWORKS = 70;

    private final int posts;
    private final int[] ends;
    private final List<List<int[]>> rows = new ArrayList<>();
    private final int parts;
    private final HandleFaces x;

    private WideTest(int posts, int... ends) {
        this.posts = posts;
        this.ends = ends;
        for (int post = 0; post < posts; post++) {
            List<int[]> found = new ArrayList<>();
            fill(found, linesOf(post), new ArrayList<>());
            rows.add(found);
        }
        parts = countParts();
        x = Checks.drawn(text());
    }

    public static void main(String[] args) {
        Random random = new Random(10);
        int surveyed = 0;
        int capped = 0;
        while (surveyed < NETWORKS || capped < NETWORKS) {
            WideTest network = anyNetwork(random);
            if (surveyed < NETWORKS && network.howMany() > 500 && network.howMany() <= MOST) {
                network.survey();
                surveyed++;
            }
            if (capped < NETWORKS && network.howMany() << network.lines() > MOST && network.twistings() <= MOST) {
                network.caps();
                capped++;
            }
        }
        manyOrders();
        CHECKS.end();
    }

    private static WideTest anyNetwork(Random random) {
        int posts = 2 + random.nextInt(5);
        int joined = 2 + random.nextInt(posts - 1);
        int[] ends = new int[2 * (5 + random.nextInt(6))];
        for (int arm = 0; arm < ends.length; arm += 2) {
            ends[arm] = random.nextInt(joined);
            ends[arm + 1] = (ends[arm] + 1 + random.nextInt(joined - 1)) % joined;
        }
        for (int post = 0; post < posts; post++) {
            int degree = 0;
            for (int end : ends) {
                degree += end == post ? 1 : 0;
            }
            if (degree > 8) {
                return anyNetwork(random);
            }
        }
        return new WideTest(posts, ends);
    }

    private String text() {
        StringBuilder text = new StringBuilder();
        for (int post = 0; post < posts; post++) {
            text.append("post ").append((char) ('a' + post)).append(';');
        }
        for (int arm = 0; arm < ends.length; arm += 2) {
            text.append("line ").append((char) ('a' + ends[arm])).append(' ').append((char) ('a' + ends[arm + 1]));
            text.append(';');
        }
        return text.toString();
    }

    private int lines() {
        return ends.length / 2;
    }

    private List<Integer> linesOf(int post) {
        List<Integer> found = new ArrayList<>();
        for (int arm = 0; arm < ends.length; arm++) {
            if (ends[arm] == post) {
                found.add(arm / 2);
            }
        }
        return found;
    }

    /** All rows of some lines that begin with the least one, the least row first. */
    private static void fill(List<int[]> found, List<Integer> left, List<Integer> row) {
        if (left.isEmpty()) {
            found.add(row.stream().mapToInt(Integer::intValue).toArray());
            return;
        }
        for (int k = 0; k < (row.isEmpty() ? 1 : left.size()); k++) {
            List<Integer> rest = new ArrayList<>(left);
            List<Integer> more = new ArrayList<>(row);
            more.add(rest.remove(k));
            fill(found, rest, more);
        }
    }

    private long howMany() {
        long many = 1;
        for (List<int[]> some : rows) {
            many *= some.size();
        }
        return many;
    }

    private long twistings() {
        return howMany() << lines() - (posts - parts);
    }

    private int countParts() {
        int[] group = ownGroups(posts);
        for (int arm = 0; arm < ends.length; arm += 2) {
            join(group, ends[arm], ends[arm + 1]);
        }
        return countGroups(group);
    }

    private static int[] ownGroups(int size) {
        int[] group = new int[size];
        for (int k = 0; k < size; k++) {
            group[k] = k;
        }
        return group;
    }

    private static int top(int[] group, int k) {
        int at = k;
        while (group[at] != at) {
            at = group[at];
        }
        return at;
    }

    private static void join(int[] group, int one, int other) {
        group[top(group, one)] = top(group, other);
    }

    private static int countGroups(int[] group) {
        int found = 0;
        for (int k = 0; k < group.length; k++) {
            found += group[k] == k ? 1 : 0;
        }
        return found;
    }

    private int[][] order(long n) {
        int[][] order = new int[posts][];
        long left = n;
        for (int post = posts - 1; post >= 0; post--) {
            int own = rows.get(post).size();
            order[post] = rows.get(post).get((int) (left % own));
            left /= own;
        }
        return order;
    }

    /** A line is a band: each of its arms has two edges, 2 * arm ahead and 2 * arm + 1 behind in the round. */
    private int twiceHandles(int[][] order, int twists) {
        int[] group = ownGroups(2 * ends.length);
        for (int line = 0; line < lines(); line++) {
            int turned = twists >> line & 1;
            join(group, 4 * line, 4 * line + 3 - turned);
            join(group, 4 * line + 1, 4 * line + 2 + turned);
        }
        int faces = 0;
        for (int post = 0; post < posts; post++) {
            int[] round = order[post];
            faces += round.length == 0 ? 1 : 0;
            for (int i = 0; i < round.length; i++) {
                join(group, 2 * arm(round[i], post) + 1, 2 * arm(round[(i + 1) % round.length], post));
            }
        }
        faces += countGroups(group);
        return 2 * parts - (posts - lines() + faces);
    }

    private int arm(int line, int post) {
        return ends[2 * line] == post ? 2 * line : 2 * line + 1;
    }

    private void survey() {
        int[] needs = new int[8];
        int least = 8;
        int most = -1;
        int first = -1;
        for (int n = 0; n < howMany(); n++) {
            int handles = twiceHandles(order(n), 0) / 2;
            needs[handles]++;
            most = Math.max(most, handles);
            if (handles < least) {
                least = handles;
                first = n;
            }
        }
        String told = " [" + text() + "]";
        CHECKS.due("all(0)" + told, x.all(0), howMany());
        CHECKS.due("all(1)" + told, x.all(1), least);
        CHECKS.due("all(2)" + told, x.all(2), most);
        CHECKS.due("all(3)" + told, x.all(3), first);
        for (int handles = 0; handles < needs.length; handles++) {
            CHECKS.due("needing(" + handles + ")" + told, x.needing(handles), needs[handles]);
        }
        CHECKS.due("lessen()" + told, x.lessen(), least);
        CHECKS.due("surface(1) behind lessen()" + told, x.surface(1), least);
        int[][] order = order(first);
        for (int post = 0; post < posts; post++) {
            for (int i = 0; i < order[post].length; i++) {
                String where = post + ", " + i + ")" + told;
                CHECKS.due("round(" + where, x.round(post, i), order[post][i]);
                CHECKS.due("ordered(" + first + ", " + where, x.ordered(first, post, i), order[post][i]);
            }
        }
    }

    private void caps() {
        int fewest = Integer.MAX_VALUE;
        for (int n = 0; n < howMany() && fewest > 0; n++) {
            int[][] order = order(n);
            for (int twists = 0; twists < 1 << lines(); twists++) {
                fewest = Math.min(fewest, twiceHandles(order, twists));
            }
        }
        CHECKS.due("capped() [" + text() + "]", x.capped(), fewest);
    }

    /** More orders than are gone through: each can be told all the same, up to the greatest int. */
    private static void manyOrders() {
        WideTest network = new WideTest(4, 0, 1, 1, 0, 0, 2, 2, 1, 0, 3, 1, 3, 1, 0, 0, 1, 2, 0, 1, 2);
        CHECKS.due("all(0)", network.x.all(0), 720L * 720 * 6);
        long step = network.howMany() / 37;
        for (long n = 0; n < network.howMany(); n += step) {
            network.orderIsTold((int) n);
        }
        network.orderIsTold((int) network.howMany() - 1);
        CHECKS.due("behind the last", network.x.ordered((int) network.howMany(), 0, 0), HandleFaces.NONE);
        HandleFaces all = Checks.drawn(2, Checks.times(10, "ab"));
        CHECKS.due("all(0)", all.all(0), 362880L * 362880L);
        // 2147483647 = 5917 * 362880 + 322687, and in factorials: 5917 = 1*5040 + 1*720 + 1*120 + 1*24 + 2*6 + 0*2 + 1,
        // 322687 = 8*40320 + 0*5040 + 0*720 + 1*120 + 0*24 + 1*6 + 0*2 + 1.
        int[] first = {0, 1, 3, 4, 5, 6, 8, 2, 9, 7};
        int[] second = {0, 9, 1, 2, 4, 3, 6, 5, 8, 7};
        for (int i = 0; i < 10; i++) {
            CHECKS.due("ordered(the greatest int, 0, " + i + ")", all.ordered(Integer.MAX_VALUE, 0, i), first[i]);
            CHECKS.due("ordered(the greatest int, 1, " + i + ")", all.ordered(Integer.MAX_VALUE, 1, i), second[i]);
        }
    }

    private void orderIsTold(int n) {
        int[][] order = order(n);
        for (int post = 0; post < posts; post++) {
            for (int i = 0; i < order[post].length; i++) {
                CHECKS.due("ordered(" + n + ", " + post + ", " + i + ")", x.ordered(n, post, i), order[post][i]);
            }
        }
    }
}
