import java.util.Arrays;

/**
 * Networks drawn on surfaces with handles, or such as do not turn. The document is ../shared/DOC.md; the capital words
 * of the comments are its terms.
 */
public final class HandleFaces {
    public static final int NONE = -1;

    private static final int UNTOLD = -2;
    private static final int OUTSIDE = -100000;

    private static final int MOST_POSTS = 6;
    private static final int MOST_LINES = 10;
    private static final int MOST_ARMS = 2 * MOST_LINES;
    private static final int MOST_STATES = 2 * MOST_ARMS;
    private static final int MOST_FACES = 16;
    private static final int MOST_HANDLES = 5;
    private static final int MOST_BYTES = 2000;
    private static final int MOST_TOKENS = 400;
    private static final int MOST_ORDERS = 20000;
    private static final int MOST_UNDONE = 40;
    private static final int SLOTS = 3;
    private static final int BYTES_FED = 20;

    private static final int SYNTAX = 1;
    private static final int ROOM = 2;
    private static final int TWICE = 3;
    private static final int NAME = 4;
    private static final int WRONG = 5;
    private static final int LACKS = 6;

    private static final int[] FACTORIALS = {1, 1, 2, 6, 24, 120, 720, 5040, 40320, 362880};

    private final Drawing drawing = new Drawing();
    private final Drawing draft = new Drawing();
    private final Scanner scanner = new Scanner();
    private final Reader reader = new Reader();
    private final Tracing tracing = new Tracing();
    private final Tracing draftTracing = new Tracing();
    private final Walker walker = new Walker();
    private final Orders orders = new Orders();
    private final Rings rings = new Rings();
    private final Likeness likeness = new Likeness();
    private final Colouring colouring = new Colouring();
    private final Shelf past = new Shelf(MOST_UNDONE);
    private final Shelf slots = new Shelf(SLOTS);
    private int pastNext = 0;
    private int pastCount = 0;
    private int slotsHeld = 0;
    private int faultPlace = NONE;
    private boolean traced = false;

    public HandleFaces() {
    }

    public int feed(int a, int b, int c, int d, int e) {
        if (scanner.length + BYTES_FED > MOST_BYTES) {
            return NONE;
        }
        scanner.append(a);
        scanner.append(b);
        scanner.append(c);
        scanner.append(d);
        scanner.append(e);
        return scanner.length;
    }

    public int back(int n) {
        if (n < 0 || n > scanner.length) {
            return NONE;
        }
        scanner.length -= n;
        return scanner.length;
    }

    public int read() {
        scanner.scan();
        int fault = scanner.fault;
        faultPlace = scanner.faultPlace;
        if (fault == 0) {
            fault = reader.check(scanner);
            faultPlace = reader.faultPlace;
        }
        if (fault == 0) {
            reader.build(scanner, drawing);
            forgetPast();
            slotsHeld = 0;
            traced = false;
        }
        scanner.length = 0;
        return fault;
    }

    public int place() {
        return faultPlace;
    }

    public int lay(int a, int i, int b, int j, boolean twisted) {
        if (drawing.lines >= MOST_LINES || a == b || !drawing.hasCorner(a, i) || !drawing.hasCorner(b, j)) {
            return NONE;
        }
        keepPast();
        return drawing.addLine(a, i, b, j, twisted);
    }

    public boolean goes(int line) {
        if (!drawing.hasLine(line)) {
            return false;
        }
        keepPast();
        drawing.dropLine(line);
        return true;
    }

    public boolean twist(int line) {
        if (!drawing.hasLine(line)) {
            return false;
        }
        keepPast();
        drawing.twists ^= 1 << line;
        return true;
    }

    public boolean flip(int post) {
        if (!drawing.hasPost(post)) {
            return false;
        }
        keepPast();
        drawing.turnOver(post);
        return true;
    }

    public boolean exchange(int post, int i) {
        if (!drawing.hasPost(post) || drawing.degrees[post] < 3 || i < 0 || i >= drawing.degrees[post]) {
            return false;
        }
        keepPast();
        drawing.swapWithNext(post, i);
        return true;
    }

    public int lessen() {
        if (Orders.howMany(drawing) > MOST_ORDERS) {
            return NONE;
        }
        keepPast();
        orders.survey(drawing);
        orders.setOrder(drawing, orders.first);
        return orders.least;
    }

    public int dual() {
        Tracing faces = freshTracing();
        if (!hasDual(faces)) {
            return NONE;
        }
        buildDual(faces, draft);
        keepPast();
        drawing.become(draft);
        return drawing.posts;
    }

    public boolean shrink(int line) {
        if (!drawing.hasLine(line) || drawing.hasTwin(line)) {
            return false;
        }
        keepPast();
        drawing.contract(line);
        return true;
    }

    public boolean undo() {
        if (pastCount == 0) {
            return false;
        }
        pastNext = pastNext == 0 ? MOST_UNDONE - 1 : pastNext - 1;
        pastCount--;
        past.fetch(pastNext, drawing);
        traced = false;
        return true;
    }

    public int line(int line, int what) {
        if (!drawing.hasLine(line)) {
            return NONE;
        }
        switch (what) {
            case 0:
                return drawing.ends[2 * line];
            case 1:
                return drawing.ends[2 * line + 1];
            case 2:
                return drawing.isTwisted(line) ? 1 : 0;
            case 3:
                return freshTracing().sides[2 * line];
            case 4:
                return freshTracing().sides[2 * line + 1];
            default:
                return NONE;
        }
    }

    public int round(int post, int i) {
        if (!drawing.hasPost(post)) {
            return NONE;
        }
        int degree = drawing.degrees[post];
        if (i == NONE) {
            return degree;
        }
        return i >= 0 && i < degree ? drawing.lineAt(post, i) : NONE;
    }

    public int face(int face, int i) {
        Tracing faces = freshTracing();
        if (face == NONE) {
            return faces.count;
        }
        if (!faces.hasFace(face)) {
            return NONE;
        }
        int length = faces.lengths[face];
        if (i == NONE) {
            return length;
        }
        return i >= 0 && i < length ? faces.armAt(face, i) >> 1 : NONE;
    }

    public int surface(int what) {
        int euler = drawing.posts - drawing.lines + freshTracing().count;
        switch (what) {
            case 0:
                return drawing.turnsRight() ? 1 : 0;
            case 1:
                return drawing.turnsRight() ? drawing.countParts() - euler / 2 : 2 * drawing.countParts() - euler;
            case 2:
                return euler;
            case 3:
                return drawing.countParts();
            default:
                return OUTSIDE;
        }
    }

    public long all(int what) {
        if (what < 0 || what > 3) {
            return NONE;
        }
        long many = Orders.howMany(drawing);
        if (what == 0) {
            return many;
        }
        if (many > MOST_ORDERS) {
            return UNTOLD;
        }
        orders.survey(drawing);
        if (what == 1) {
            return orders.least;
        }
        return what == 2 ? orders.most : orders.first;
    }

    public int needing(int handles) {
        if (Orders.howMany(drawing) > MOST_ORDERS) {
            return UNTOLD;
        }
        if (handles < 0 || handles > MOST_HANDLES) {
            return 0;
        }
        orders.survey(drawing);
        return orders.needs[handles];
    }

    public int ordered(int n, int post, int i) {
        if (n < 0 || n >= Orders.howMany(drawing) || !drawing.hasPost(post)) {
            return NONE;
        }
        if (i < 0 || i >= drawing.degrees[post]) {
            return NONE;
        }
        return Orders.lineInOrder(drawing, n, post, i);
    }

    public int capped() {
        return orders.fewestCaps(drawing);
    }

    public int bound(int what) {
        if (what != 0 && what != 1) {
            return NONE;
        }
        rings.search(drawing);
        if (what == 1) {
            return rings.girth == 0 ? UNTOLD : rings.girth;
        }
        if (rings.girth == 0 || drawing.countParts() != 1) {
            return 0;
        }
        int twiceHandles = 2 - drawing.posts + drawing.lines - 2 * drawing.lines / rings.girth;
        return twiceHandles <= 0 ? 0 : (twiceHandles + 1) / 2;
    }

    public int without(int line, int what) {
        if (!drawing.hasLine(line) || what < 0 || what > 2) {
            return OUTSIDE;
        }
        draft.become(drawing);
        draft.dropLine(line);
        if (what == 1) {
            return draft.countParts();
        }
        draftTracing.trace(draft);
        return what == 0 ? draftTracing.count : draft.posts - draft.lines + draftTracing.count;
    }

    public int beside(int face) {
        Tracing faces = freshTracing();
        return faces.hasFace(face) ? faces.neighbours[face] : NONE;
    }

    public int colours() {
        Tracing faces = freshTracing();
        if (faces.oneSidedLines(drawing.lines) != 0) {
            return UNTOLD;
        }
        return colouring.fewest(faces);
    }

    public int like(int slot) {
        if (!holdsSlot(slot)) {
            return NONE;
        }
        slots.fetch(slot, draft);
        return likeness.waysBetween(drawing, draft);
    }

    public boolean hold(int slot) {
        if (slot < 0 || slot >= SLOTS) {
            return false;
        }
        slots.store(slot, drawing);
        slotsHeld |= 1 << slot;
        return true;
    }

    public boolean restore(int slot) {
        if (!holdsSlot(slot)) {
            return false;
        }
        slots.fetch(slot, drawing);
        forgetPast();
        traced = false;
        return true;
    }

    public int count(int what) {
        switch (what) {
            case 0:
                return drawing.posts;
            case 1:
                return drawing.lines;
            case 2:
                return freshTracing().count;
            case 3:
                return drawing.twists;
            case 4:
                return freshTracing().greatestLength();
            case 5:
                return freshTracing().leastLength();
            case 6:
                return freshTracing().oneSidedLines(drawing.lines);
            case 7:
                rings.search(drawing);
                return rings.count;
            case 8:
                return likeness.waysBetween(drawing, drawing);
            case 9:
                return scanner.length;
            case 10:
                return pastCount;
            case 11:
                return Integer.bitCount(slotsHeld);
            case 12:
                return walker.straightOnes(drawing);
            default:
                return NONE;
        }
    }

    /** Every thing done by hand comes through here first, so that it can be undone and the faces are traced anew. */
    private void keepPast() {
        past.store(pastNext, drawing);
        pastNext = pastNext + 1 == MOST_UNDONE ? 0 : pastNext + 1;
        pastCount = Math.min(pastCount + 1, MOST_UNDONE);
        traced = false;
    }

    private void forgetPast() {
        pastNext = 0;
        pastCount = 0;
    }

    private boolean holdsSlot(int slot) {
        return slot >= 0 && slot < SLOTS && (slotsHeld >> slot & 1) != 0;
    }

    private Tracing freshTracing() {
        if (!traced) {
            tracing.trace(drawing);
            traced = true;
        }
        return tracing;
    }

    private boolean hasDual(Tracing faces) {
        return faces.count <= MOST_POSTS && drawing.barePosts() == 0 && faces.oneSidedLines(drawing.lines) == 0;
    }

    private void buildDual(Tracing faces, Drawing into) {
        into.posts = Math.min(faces.count, MOST_POSTS);
        into.lines = drawing.lines;
        into.twists = 0;
        for (int line = 0; line < drawing.lines; line++) {
            into.ends[2 * line] = faces.sides[2 * line];
            into.ends[2 * line + 1] = faces.sides[2 * line + 1];
            if (faces.ways[2 * line] == faces.ways[2 * line + 1]) {
                into.twists |= 1 << line;
            }
        }
        for (int post = 0; post < into.posts; post++) {
            into.degrees[post] = 0;
            for (int i = 0; i < faces.lengths[post]; i++) {
                into.insertAt(post, i, faces.armAt(post, i) >> 1);
            }
        }
    }

    /**
     * POSTS, LINES and ROUNDS. An ARM's number is twice its LINE's, and 1 more at the LINE's second POST, so that
     * ARMS stand in the document's order and the other end of an arm is arm ^ 1.
     */
    private static final class Drawing {
        int posts = 0;
        int lines = 0;
        int twists = 0;
        final int[] ends = new int[MOST_ARMS];
        final int[] degrees = new int[MOST_POSTS];
        final int[] rounds = new int[MOST_POSTS * MOST_LINES];

        void become(Drawing other) {
            posts = other.posts;
            lines = other.lines;
            twists = other.twists;
            System.arraycopy(other.ends, 0, ends, 0, ends.length);
            System.arraycopy(other.degrees, 0, degrees, 0, degrees.length);
            System.arraycopy(other.rounds, 0, rounds, 0, rounds.length);
        }

        boolean hasPost(int post) {
            return post >= 0 && post < posts;
        }

        boolean hasLine(int line) {
            return line >= 0 && line < lines;
        }

        boolean hasCorner(int post, int i) {
            return hasPost(post) && i >= 0 && i < Math.max(1, degrees[post]);
        }

        boolean isTwisted(int line) {
            return (twists >> line & 1) != 0;
        }

        boolean isLineOf(int line, int post) {
            return ends[2 * line] == post || ends[2 * line + 1] == post;
        }

        int lineAt(int post, int i) {
            return rounds[post * MOST_LINES + i];
        }

        int armAt(int post, int i) {
            int arm = 2 * rounds[post * MOST_LINES + i];
            return ends[arm] == post ? arm : arm + 1;
        }

        /** Whether another LINE joins the same two POSTS. */
        boolean hasTwin(int line) {
            for (int other = 0; other < lines; other++) {
                if (other != line && isLineOf(other, ends[2 * line]) && isLineOf(other, ends[2 * line + 1])) {
                    return true;
                }
            }
            return false;
        }

        int barePosts() {
            int bare = 0;
            for (int post = 0; post < posts; post++) {
                if (degrees[post] == 0) {
                    bare++;
                }
            }
            return bare;
        }

        int addLine(int a, int i, int b, int j, boolean twisted) {
            int line = lines;
            lines++;
            ends[2 * line] = a;
            ends[2 * line + 1] = b;
            if (twisted) {
                twists |= 1 << line;
            }
            insertAt(a, Math.min(i + 1, degrees[a]), line);
            insertAt(b, Math.min(j + 1, degrees[b]), line);
            return line;
        }

        void dropLine(int line) {
            takeOut(ends[2 * line], line);
            takeOut(ends[2 * line + 1], line);
            closeLineNumber(line);
        }

        void turnOver(int post) {
            int low = post * MOST_LINES;
            int high = low + degrees[post] - 1;
            for (int i = low; i <= high; i++) {
                twists ^= 1 << rounds[i];
            }
            reverseRow(low, high);
        }

        void reverseRow(int from, int to) {
            int high = to;
            for (int low = from; low < high; low++) {
                swap(low, high);
                high--;
            }
        }

        void swap(int one, int other) {
            int kept = rounds[one];
            rounds[one] = rounds[other];
            rounds[other] = kept;
        }

        void swapWithNext(int post, int i) {
            int low = post * MOST_LINES;
            swap(low + i, i + 1 == degrees[post] ? low : low + i + 1);
        }

        /** SHRUNK: the second POST's LINES come to the first POST, in the place of the LINE. */
        void contract(int line) {
            int kept = ends[2 * line];
            int gone = ends[2 * line + 1];
            if (isTwisted(line)) {
                turnOver(gone);
            }
            int at = takeOut(kept, line);
            int from = placeOf(gone, line);
            int degree = degrees[gone];
            for (int k = 1; k < degree; k++) {
                int i = from + k < degree ? from + k : from + k - degree;
                int moved = lineAt(gone, i);
                ends[armAt(gone, i)] = kept;
                insertAt(kept, at + k - 1, moved);
            }
            closeLineNumber(line);
            closePostNumber(gone);
        }

        void insertAt(int post, int at, int line) {
            int degree = degrees[post];
            if (degree >= MOST_LINES || at < 0 || at > degree) {
                return;
            }
            int low = post * MOST_LINES;
            for (int i = degree; i > at; i--) {
                rounds[low + i] = rounds[low + i - 1];
            }
            rounds[low + at] = line;
            degrees[post] = degree + 1;
        }

        private int placeOf(int post, int line) {
            for (int i = 0; i < degrees[post]; i++) {
                if (lineAt(post, i) == line) {
                    return i;
                }
            }
            return degrees[post];
        }

        private int takeOut(int post, int line) {
            int at = placeOf(post, line);
            int low = post * MOST_LINES;
            for (int i = at; i + 1 < degrees[post]; i++) {
                rounds[low + i] = rounds[low + i + 1];
            }
            if (at < degrees[post]) {
                degrees[post]--;
            }
            return at;
        }

        private void closeLineNumber(int line) {
            for (int arm = 2 * line; arm + 2 < 2 * lines; arm++) {
                ends[arm] = ends[arm + 2];
            }
            lines--;
            int low = (1 << line) - 1;
            twists = twists & low | twists >> 1 & ~low;
            for (int post = 0; post < posts; post++) {
                for (int i = 0; i < degrees[post]; i++) {
                    if (lineAt(post, i) > line) {
                        rounds[post * MOST_LINES + i]--;
                    }
                }
            }
        }

        private void closePostNumber(int gone) {
            for (int post = gone; post + 1 < posts; post++) {
                degrees[post] = degrees[post + 1];
                System.arraycopy(rounds, (post + 1) * MOST_LINES, rounds, post * MOST_LINES, MOST_LINES);
            }
            posts--;
            for (int arm = 0; arm < 2 * lines; arm++) {
                if (ends[arm] > gone) {
                    ends[arm]--;
                }
            }
        }

        /** ROUNDS as they are if not told: by the LINES' numbers. */
        void orderByNumber() {
            Arrays.fill(degrees, 0);
            for (int arm = 0; arm < 2 * lines; arm++) {
                insertAt(ends[arm], degrees[ends[arm]], arm >> 1);
            }
        }

        /** POSTS (bits) that hang together with one by LINES of numbers below a limit. */
        private int reach(int post, int limit) {
            int reached = 1 << post;
            for (int pass = 1; pass < posts; pass++) {
                int before = reached;
                for (int line = 0; line < limit; line++) {
                    int both = 1 << ends[2 * line] | 1 << ends[2 * line + 1];
                    if ((reached & both) != 0) {
                        reached |= both;
                    }
                }
                if (reached == before) {
                    break;
                }
            }
            return reached;
        }

        int countParts() {
            int parts = 0;
            int seen = 0;
            for (int post = 0; post < posts; post++) {
                if ((seen >> post & 1) == 0) {
                    seen |= reach(post, lines);
                    parts++;
                }
            }
            return parts;
        }

        /** LINES (bits) whose two POSTS hang together by lesser LINES already; the others make no RING. */
        int looseLines() {
            int loose = 0;
            for (int line = 0; line < lines; line++) {
                if ((reach(ends[2 * line], line) >> ends[2 * line + 1] & 1) != 0) {
                    loose |= 1 << line;
                }
            }
            return loose;
        }

        boolean turnsRight() {
            int known = 0;
            int turned = 0;
            for (int post = 0; post < posts; post++) {
                if ((known >> post & 1) != 0) {
                    continue;
                }
                known |= 1 << post;
                for (int step = 0; step < posts * lines; step++) {
                    int arm = armOutOf(known);
                    if (arm == NONE) {
                        break;
                    }
                    known |= 1 << ends[arm ^ 1];
                    turned |= ((turned >> ends[arm] ^ twists >> (arm >> 1)) & 1) << ends[arm ^ 1];
                }
            }
            for (int line = 0; line < lines; line++) {
                if (((turned >> ends[2 * line] ^ turned >> ends[2 * line + 1] ^ twists >> line) & 1) != 0) {
                    return false;
                }
            }
            return true;
        }

        private int armOutOf(int known) {
            for (int arm = 0; arm < 2 * lines; arm++) {
                if ((known >> ends[arm] & 1) != 0 && (known >> ends[arm ^ 1] & 1) == 0) {
                    return arm;
                }
            }
            return NONE;
        }

        /** The same for two drawings just if they have the same POSTS and LINES, whatever their ROUNDS are. */
        long networkKey() {
            long key = posts;
            for (int arm = 0; arm < MOST_ARMS; arm++) {
                key = key << 3 | (arm < 2 * lines ? ends[arm] : 7);
            }
            return key;
        }
    }

    /** Rows that keep drawings, made once and written over. */
    private static final class Shelf {
        private static final int ENDS = 3;
        private static final int DEGREES = ENDS + MOST_ARMS;
        private static final int ROUNDS = DEGREES + MOST_POSTS;
        private static final int WIDTH = ROUNDS + MOST_POSTS * MOST_LINES;

        private final int places;
        private final int[] cells;

        Shelf(int places) {
            this.places = Math.max(0, Math.min(places, MOST_UNDONE));
            this.cells = new int[this.places * WIDTH];
        }

        void store(int number, Drawing from) {
            if (number < 0 || number >= places) {
                return;
            }
            int at = number * WIDTH;
            cells[at] = from.posts;
            cells[at + 1] = from.lines;
            cells[at + 2] = from.twists;
            System.arraycopy(from.ends, 0, cells, at + ENDS, MOST_ARMS);
            System.arraycopy(from.degrees, 0, cells, at + DEGREES, MOST_POSTS);
            System.arraycopy(from.rounds, 0, cells, at + ROUNDS, MOST_POSTS * MOST_LINES);
        }

        void fetch(int number, Drawing into) {
            if (number < 0 || number >= places) {
                return;
            }
            int at = number * WIDTH;
            into.posts = cells[at];
            into.lines = cells[at + 1];
            into.twists = cells[at + 2];
            System.arraycopy(cells, at + ENDS, into.ends, 0, MOST_ARMS);
            System.arraycopy(cells, at + DEGREES, into.degrees, 0, MOST_POSTS);
            System.arraycopy(cells, at + ROUNDS, into.rounds, 0, MOST_POSTS * MOST_LINES);
        }
    }

    /** The tape, and its TOKENS; finds SYNTAX and ROOM, the faults that go before all others. */
    private static final class Scanner {
        static final int NO_TOKEN = 0;
        static final int POST_WORD = 1;
        static final int LINE_WORD = 2;
        static final int ROUND_WORD = 3;
        static final int TWISTED_WORD = 4;
        static final int NAME_TOKEN = 5;
        static final int INT_TOKEN = 6;
        static final int END_SIGN = 7;

        private static final int AT_TELL = 0;
        private static final int AT_POST_NAME = 1;
        private static final int AT_FIRST_NAME = 2;
        private static final int AT_SECOND_NAME = 3;
        private static final int AT_TWISTED = 4;
        private static final int AT_ROUND_NAME = 5;
        private static final int AT_FIRST_INT = 6;
        private static final int AT_NEXT_INT = 7;
        private static final int AT_SIGN = 8;

        private static final int MOST_LETTERS = 8;
        private static final int MOST_DIGITS = 4;

        int length = 0;
        int tokens = 0;
        int fault = 0;
        int faultPlace = NONE;
        final int[] kinds = new int[MOST_TOKENS];
        final int[] places = new int[MOST_TOKENS];
        final long[] values = new long[MOST_TOKENS];
        private final byte[] bytes = new byte[MOST_BYTES];
        private int stage = AT_TELL;
        private int posts = 0;
        private int lines = 0;
        private int tokenKind = NO_TOKEN;
        private int tokenEnd = 0;
        private long tokenValue = 0;

        /** Four bytes, the highest first. */
        void append(int word) {
            for (int shift = 24; shift >= 0 && length < MOST_BYTES; shift -= 8) {
                bytes[length] = (byte) (word >> shift);
                length++;
            }
        }

        void scan() {
            tokens = 0;
            posts = 0;
            lines = 0;
            fault = 0;
            faultPlace = NONE;
            stage = AT_TELL;
            int at = 0;
            for (int steps = 0; steps < MOST_BYTES && at < length && fault == 0; steps++) {
                if (isBlank(bytes[at])) {
                    at++;
                } else {
                    lookAt(at);
                    takeToken(at);
                    at = tokenEnd;
                }
            }
            if (fault == 0 && stage != AT_TELL) {
                fail(SYNTAX, length);
            }
        }

        private void fail(int number, int at) {
            fault = number;
            faultPlace = at;
        }

        private void lookAt(int at) {
            tokenValue = 0;
            tokenEnd = at + 1;
            tokenKind = NO_TOKEN;
            if (isLetter(bytes[at])) {
                lookAtLetters(at);
            } else if (isDigit(bytes[at])) {
                lookAtDigits(at);
            } else if (bytes[at] == ';') {
                tokenKind = END_SIGN;
            }
        }

        /** A NAME's value is its letters, five bits each: no two NAMES have the same. */
        private void lookAtLetters(int at) {
            int end = at;
            for (; end < length && isLetter(bytes[end]); end++) {
                tokenValue = tokenValue << 5 | bytes[end] - 'a' + 1;
            }
            tokenEnd = end;
            if (end - at > MOST_LETTERS) {
                tokenKind = NO_TOKEN;
            } else if (spells("post", at, end)) {
                tokenKind = POST_WORD;
            } else if (spells("line", at, end)) {
                tokenKind = LINE_WORD;
            } else if (spells("round", at, end)) {
                tokenKind = ROUND_WORD;
            } else {
                tokenKind = spells("twisted", at, end) ? TWISTED_WORD : NAME_TOKEN;
            }
        }

        private void lookAtDigits(int at) {
            int end = at;
            for (; end < length && isDigit(bytes[end]); end++) {
                tokenValue = tokenValue * 10 + bytes[end] - '0';
            }
            tokenEnd = end;
            tokenKind = end - at > MOST_DIGITS ? NO_TOKEN : INT_TOKEN;
        }

        private boolean spells(String word, int from, int to) {
            if (to - from != word.length()) {
                return false;
            }
            for (int i = 0; i < word.length(); i++) {
                if (bytes[from + i] != word.charAt(i)) {
                    return false;
                }
            }
            return true;
        }

        private void takeToken(int at) {
            int next = stageBehind(tokenKind);
            if (next == NONE) {
                fail(SYNTAX, at);
                return;
            }
            if (tokens >= MOST_TOKENS || tokenKind == POST_WORD && posts >= MOST_POSTS
                    || tokenKind == LINE_WORD && lines >= MOST_LINES) {
                fail(ROOM, at);
                return;
            }
            posts += tokenKind == POST_WORD ? 1 : 0;
            lines += tokenKind == LINE_WORD ? 1 : 0;
            kinds[tokens] = tokenKind;
            places[tokens] = at;
            values[tokens] = tokenValue;
            tokens++;
            stage = next;
        }

        private int stageBehind(int kind) {
            switch (stage) {
                case AT_TELL:
                    return tellStage(kind);
                case AT_POST_NAME:
                    return kind == NAME_TOKEN ? AT_SIGN : NONE;
                case AT_FIRST_NAME:
                    return kind == NAME_TOKEN ? AT_SECOND_NAME : NONE;
                case AT_SECOND_NAME:
                    return kind == NAME_TOKEN ? AT_TWISTED : NONE;
                case AT_TWISTED:
                    return kind == TWISTED_WORD ? AT_SIGN : signStage(kind);
                case AT_ROUND_NAME:
                    return kind == NAME_TOKEN ? AT_FIRST_INT : NONE;
                case AT_FIRST_INT:
                    return kind == INT_TOKEN ? AT_NEXT_INT : NONE;
                case AT_NEXT_INT:
                    return kind == INT_TOKEN ? AT_NEXT_INT : signStage(kind);
                case AT_SIGN:
                    return signStage(kind);
                default:
                    return NONE;
            }
        }

        private static int tellStage(int kind) {
            switch (kind) {
                case POST_WORD:
                    return AT_POST_NAME;
                case LINE_WORD:
                    return AT_FIRST_NAME;
                case ROUND_WORD:
                    return AT_ROUND_NAME;
                default:
                    return NONE;
            }
        }

        private static int signStage(int kind) {
            return kind == END_SIGN ? AT_TELL : NONE;
        }

        private static boolean isBlank(byte sign) {
            return sign == 9 || sign == 10 || sign == 13 || sign == 32;
        }

        private static boolean isLetter(byte sign) {
            return sign >= 'a' && sign <= 'z';
        }

        private static boolean isDigit(byte sign) {
            return sign >= '0' && sign <= '9';
        }
    }

    /** What a text without SYNTAX and ROOM tells; finds the other faults. */
    private static final class Reader {
        int fault = 0;
        int faultPlace = NONE;
        private int posts = 0;
        private int lines = 0;
        private int twists = 0;
        private final long[] names = new long[MOST_POSTS];
        private final int[] ends = new int[MOST_ARMS];

        /** 0, or the first fault of the TOKENS. */
        int check(Scanner text) {
            fault = 0;
            faultPlace = NONE;
            gatherPosts(text);
            gatherLines(text);
            int told = 0;
            for (int t = 0; t + 2 < text.tokens && fault == 0; t++) {
                if (text.kinds[t] == Scanner.POST_WORD) {
                    checkPost(text, t + 1, told);
                    told++;
                } else if (text.kinds[t] == Scanner.LINE_WORD) {
                    checkLine(text, t + 1);
                } else if (text.kinds[t] == Scanner.ROUND_WORD) {
                    checkRound(text, t + 1);
                }
            }
            return fault;
        }

        /** To be called only behind a check that found no fault. */
        void build(Scanner text, Drawing into) {
            into.posts = posts;
            into.lines = lines;
            into.twists = twists;
            System.arraycopy(ends, 0, into.ends, 0, MOST_ARMS);
            into.orderByNumber();
            for (int t = 0; t + 2 < text.tokens; t++) {
                if (text.kinds[t] == Scanner.ROUND_WORD) {
                    buildRound(text, t + 1, into);
                }
            }
        }

        private void fail(int number, int at) {
            fault = number;
            faultPlace = at;
        }

        private void gatherPosts(Scanner text) {
            posts = 0;
            for (int t = 0; t + 1 < text.tokens; t++) {
                if (text.kinds[t] == Scanner.POST_WORD && posts < MOST_POSTS) {
                    names[posts] = text.values[t + 1];
                    posts++;
                }
            }
        }

        private void gatherLines(Scanner text) {
            lines = 0;
            twists = 0;
            for (int t = 0; t < text.tokens; t++) {
                if (text.kinds[t] == Scanner.LINE_WORD && t + 2 < text.tokens && lines < MOST_LINES) {
                    ends[2 * lines] = postNamed(text.values[t + 1]);
                    ends[2 * lines + 1] = postNamed(text.values[t + 2]);
                    lines++;
                } else if (text.kinds[t] == Scanner.TWISTED_WORD && lines > 0) {
                    twists |= 1 << lines - 1;
                }
            }
        }

        private int postNamed(long name) {
            for (int post = 0; post < posts; post++) {
                if (names[post] == name) {
                    return post;
                }
            }
            return NONE;
        }

        private void checkPost(Scanner text, int t, int told) {
            if (postNamed(text.values[t]) < told) {
                fail(TWICE, text.places[t]);
            }
        }

        private void checkLine(Scanner text, int t) {
            if (postNamed(text.values[t]) == NONE) {
                fail(NAME, text.places[t]);
            } else if (text.values[t] == text.values[t + 1]) {
                fail(TWICE, text.places[t + 1]);
            } else if (postNamed(text.values[t + 1]) == NONE) {
                fail(NAME, text.places[t + 1]);
            }
        }

        private void checkRound(Scanner text, int nameAt) {
            int post = postNamed(text.values[nameAt]);
            if (post == NONE) {
                fail(NAME, text.places[nameAt]);
                return;
            }
            int left = linesOf(post);
            int t = nameAt + 1;
            for (; t < text.tokens && text.kinds[t] == Scanner.INT_TOKEN; t++) {
                int line = (int) text.values[t];
                if (line < 0 || line >= lines || (left >> line & 1) == 0) {
                    fail(WRONG, text.places[t]);
                    return;
                }
                left &= ~(1 << line);
            }
            if (left != 0 && t < text.tokens) {
                fail(LACKS, text.places[t]);
            }
        }

        private int linesOf(int post) {
            int found = 0;
            for (int arm = 0; arm < 2 * lines; arm++) {
                if (ends[arm] == post) {
                    found |= 1 << (arm >> 1);
                }
            }
            return found;
        }

        private void buildRound(Scanner text, int nameAt, Drawing into) {
            int post = postNamed(text.values[nameAt]);
            if (post == NONE) {
                return;
            }
            into.degrees[post] = 0;
            for (int t = nameAt + 1; t < text.tokens && text.kinds[t] == Scanner.INT_TOKEN; t++) {
                into.insertAt(post, into.degrees[post], (int) text.values[t]);
            }
        }
    }

    /** Steps of WALKS. A state is an ARM with FORTH, or, ARMS many numbers more, the same one with BACK. */
    private static final class Walker {
        int arms = 0;
        int twists = 0;
        private final int[] behind = new int[MOST_ARMS];
        private final int[] ahead = new int[MOST_ARMS];

        void enter(Drawing drawing) {
            arms = 2 * drawing.lines;
            twists = drawing.twists;
            for (int post = 0; post < drawing.posts; post++) {
                link(drawing, post, 1);
            }
        }

        /** Each ARM of a POST gets the one that stands so many places behind it as its next one. */
        void link(Drawing drawing, int post, int places) {
            int degree = drawing.degrees[post];
            for (int i = 0; i < degree; i++) {
                int arm = drawing.armAt(post, i);
                int next = drawing.armAt(post, i + places < degree ? i + places : i + places - degree);
                behind[arm] = next;
                ahead[next] = arm;
            }
        }

        /** Whether the SENSE is BACK when one comes to the other end of the LINE. */
        private boolean comesBack(int state) {
            int arm = state < arms ? state : state - arms;
            return state >= arms != ((twists >> (arm >> 1) & 1) != 0);
        }

        private int otherEnd(int state) {
            return (state < arms ? state : state - arms) ^ 1;
        }

        int next(int state) {
            int there = otherEnd(state);
            return comesBack(state) ? arms + ahead[there] : behind[there];
        }

        /** Where the WALK the other way round stands. */
        int opposite(int state) {
            int there = otherEnd(state);
            return comesBack(state) ? there : arms + there;
        }

        int otherSense(int state) {
            return state < arms ? state + arms : state - arms;
        }

        /** How many FACES with LINES there are if no LINE is TWISTED: WALKS with FORTH alone are enough then. */
        int countForth() {
            int left = (1 << arms) - 1;
            int found = 0;
            for (int start = 0; start < arms; start++) {
                if ((left >> start & 1) == 0) {
                    continue;
                }
                found++;
                int arm = start;
                for (int steps = 0; steps < arms && (left >> arm & 1) != 0; steps++) {
                    left &= ~(1 << arm);
                    arm = behind[arm ^ 1];
                }
            }
            return found;
        }

        /** How many FACES with LINES there are. */
        int countAll() {
            long left = (1L << 2 * arms) - 1;
            int found = 0;
            for (int start = 0; start < 2 * arms; start++) {
                if ((left >> start & 1) == 0) {
                    continue;
                }
                found++;
                int state = start;
                for (int steps = 0; steps < arms && (left >> state & 1) != 0; steps++) {
                    left &= ~(1L << state | 1L << opposite(state));
                    state = next(state);
                }
            }
            return found;
        }

        /** STRAIGHT ones: WALKS of which each goes half round, and each of which is counted both ways round. */
        int straightOnes(Drawing drawing) {
            arms = 2 * drawing.lines;
            for (int post = 0; post < drawing.posts; post++) {
                if ((drawing.degrees[post] & 1) != 0) {
                    return UNTOLD;
                }
                link(drawing, post, drawing.degrees[post] / 2);
            }
            return countForth() / 2;
        }
    }

    /** The FACES of a drawing, numbered, and what stands on the sides of LINES. */
    private static final class Tracing {
        int count = 0;
        final int[] lengths = new int[MOST_FACES];
        final int[] neighbours = new int[MOST_FACES];
        /** By LINE two: its FACES, the lesser one first, and on which of its ARMS their WALKS stand (0, 1). */
        final int[] sides = new int[MOST_ARMS];
        final int[] ways = new int[MOST_ARMS];
        private final int[] begins = new int[MOST_FACES];
        private final int[] walk = new int[MOST_ARMS];
        private final Walker walker = new Walker();
        private int told = 0;
        private int linesSeen = 0;
        private long statesSeen = 0;

        void trace(Drawing drawing) {
            walker.enter(drawing);
            count = 0;
            told = 0;
            linesSeen = 0;
            statesSeen = 0;
            for (int state = 0; state < 2 * walker.arms; state++) {
                if ((statesSeen >> state & 1) == 0) {
                    beginFace();
                    follow(state);
                }
            }
            for (int post = 0; post < drawing.posts; post++) {
                if (drawing.degrees[post] == 0) {
                    beginFace();
                }
            }
            setNeighbours(drawing.lines);
        }

        boolean hasFace(int face) {
            return face >= 0 && face < count;
        }

        int armAt(int face, int i) {
            return walk[begins[face] + i];
        }

        int greatestLength() {
            int greatest = 0;
            for (int face = 0; face < count; face++) {
                greatest = Math.max(greatest, lengths[face]);
            }
            return greatest;
        }

        int leastLength() {
            int least = count == 0 ? 0 : lengths[0];
            for (int face = 1; face < count; face++) {
                least = Math.min(least, lengths[face]);
            }
            return least;
        }

        /** LINES (bits) with one FACE on both sides. */
        int oneSidedLines(int lines) {
            int found = 0;
            for (int line = 0; line < lines; line++) {
                if (sides[2 * line] == sides[2 * line + 1]) {
                    found |= 1 << line;
                }
            }
            return found;
        }

        private void beginFace() {
            if (count < MOST_FACES) {
                begins[count] = told;
                lengths[count] = 0;
                count++;
            }
        }

        private void follow(int first) {
            int state = first;
            for (int steps = 0; steps < walker.arms && told < MOST_ARMS; steps++) {
                statesSeen |= 1L << state | 1L << walker.opposite(state);
                tell(state < walker.arms ? state : state - walker.arms);
                state = walker.next(state);
                if (state == first) {
                    break;
                }
            }
        }

        /** FACES come by rising numbers, so that the one that comes to a LINE first is the lesser. */
        private void tell(int arm) {
            int line = arm >> 1;
            int side = 2 * line + (linesSeen >> line & 1);
            linesSeen |= 1 << line;
            sides[side] = count - 1;
            ways[side] = arm & 1;
            lengths[count - 1]++;
            walk[told] = arm;
            told++;
        }

        private void setNeighbours(int lines) {
            Arrays.fill(neighbours, 0);
            for (int line = 0; line < lines; line++) {
                neighbours[sides[2 * line]] |= 1 << sides[2 * line + 1];
                neighbours[sides[2 * line + 1]] |= 1 << sides[2 * line];
            }
        }
    }

    /** ALL ROUNDS. What they need hangs on the network alone and is kept till another network is asked about. */
    private static final class Orders {
        int least = 0;
        int most = 0;
        int first = 0;
        final int[] needs = new int[MOST_HANDLES + 1];
        private final Drawing hand = new Drawing();
        private final Walker walker = new Walker();
        private long surveyedKey = NONE;
        private long cappedKey = NONE;
        private int caps = 0;

        static long howMany(Drawing drawing) {
            long many = 1;
            for (int post = 0; post < drawing.posts; post++) {
                many *= ordersOf(drawing, post);
            }
            return many;
        }

        private static int ordersOf(Drawing drawing, int post) {
            return factorial(drawing.degrees[post] - 1);
        }

        private static int factorial(int n) {
            return n < 0 || n >= FACTORIALS.length ? 1 : FACTORIALS[n];
        }

        /** To be called only if there are not more of ALL ROUNDS than can be gone through. */
        void survey(Drawing network) {
            long key = network.networkKey();
            if (key == surveyedKey) {
                return;
            }
            surveyedKey = key;
            beginOrders(network);
            Arrays.fill(needs, 0);
            least = MOST_HANDLES + 1;
            most = NONE;
            int euler = eulerWithoutWalks(network);
            int parts = network.countParts();
            long many = Math.min(howMany(network), MOST_ORDERS);
            for (int n = 0; n < many; n++) {
                countNeed(n, parts - (euler + walker.countForth()) / 2);
                advance();
            }
        }

        private void countNeed(int n, int handles) {
            if (handles < 0 || handles > MOST_HANDLES) {
                return;
            }
            needs[handles]++;
            most = Math.max(most, handles);
            if (handles < least) {
                least = handles;
                first = n;
            }
        }

        /**
         * CAPPED. LINES that make no RING need not be TWISTED: POSTS can be turned over so that they are not. It is 0
         * just if no HANDLES are needed, so that one need not look for 0 and can stop at 1.
         */
        int fewestCaps(Drawing network) {
            int loose = network.looseLines();
            long many = howMany(network);
            int twistings = 1 << Integer.bitCount(loose);
            if (many * twistings > MOST_ORDERS) {
                return UNTOLD;
            }
            long key = network.networkKey();
            if (key == cappedKey) {
                return caps;
            }
            cappedKey = key;
            survey(network);
            caps = 2 * least;
            beginOrders(network);
            int capsWithoutWalks = 2 * network.countParts() - eulerWithoutWalks(network);
            for (int n = 0; n < many && caps > 1; n++) {
                caps = Math.min(caps, capsWithoutWalks - mostFacesTwisted(loose, twistings));
                advance();
            }
            return caps;
        }

        /** EULER, but for the FACES with LINES. */
        private static int eulerWithoutWalks(Drawing network) {
            return network.posts - network.lines + network.barePosts();
        }

        private int mostFacesTwisted(int loose, int twistings) {
            int found = 0;
            int twists = 0;
            for (int k = 0; k < twistings; k++) {
                walker.twists = twists;
                found = Math.max(found, walker.countAll());
                twists = twists - loose & loose;
            }
            return found;
        }

        private void beginOrders(Drawing network) {
            hand.become(network);
            hand.twists = 0;
            hand.orderByNumber();
            walker.enter(hand);
        }

        /** The next of ALL ROUNDS comes in hand; behind the last one the first one. */
        private void advance() {
            for (int post = hand.posts - 1; post >= 0; post--) {
                if (hand.degrees[post] > 2) {
                    boolean more = nextRow(post);
                    walker.link(hand, post, 1);
                    if (more) {
                        return;
                    }
                }
            }
        }

        /** The next row in order behind the POST's least LINE, which stays; false: it was the last, the first stands. */
        private boolean nextRow(int post) {
            int low = post * MOST_LINES;
            int last = low + hand.degrees[post] - 1;
            int[] rows = hand.rounds;
            int i = last - 1;
            while (i > low && rows[i] > rows[i + 1]) {
                i--;
            }
            if (i > low) {
                int j = last;
                while (j > i && rows[j] < rows[i]) {
                    j--;
                }
                hand.swap(i, j);
            }
            hand.reverseRow(i + 1, last);
            return i > low;
        }

        /** All becomes the n-th of ALL ROUNDS. */
        void setOrder(Drawing drawing, int n) {
            drawing.twists = 0;
            hand.become(drawing);
            for (int post = 0; post < drawing.posts; post++) {
                for (int i = 0; i < drawing.degrees[post]; i++) {
                    drawing.rounds[post * MOST_LINES + i] = lineInOrder(hand, n, post, i);
                }
            }
        }

        static int lineInOrder(Drawing drawing, int n, int post, int i) {
            long later = 1;
            for (int other = post + 1; other < drawing.posts; other++) {
                later *= ordersOf(drawing, other);
            }
            int own = ordersOf(drawing, post);
            if (later <= 0 || own <= 0) {
                return NONE;
            }
            int number = (int) (n / later % own);
            int left = 0;
            for (int k = 0; k < drawing.degrees[post]; k++) {
                left |= 1 << drawing.lineAt(post, k);
            }
            int line = lowestBut(left, 0);
            for (int k = 1; k <= i; k++) {
                left &= ~(1 << line);
                int each = Math.max(1, factorial(drawing.degrees[post] - 1 - k));
                line = lowestBut(left, number / each);
                number %= each;
            }
            return line;
        }

        /** The lowest LINE of some but for so many lower ones. */
        private static int lowestBut(int lines, int passed) {
            int left = passed;
            for (int line = 0; line < MOST_LINES; line++) {
                if ((lines >> line & 1) != 0) {
                    if (left == 0) {
                        return line;
                    }
                    left--;
                }
            }
            return 0;
        }
    }

    /** RINGS, each found from its least POST, once each way round. */
    private static final class Rings {
        int count = 0;
        int girth = 0;
        private int start = 0;

        void search(Drawing drawing) {
            count = 0;
            girth = 0;
            for (int post = 0; post < drawing.posts; post++) {
                start = post;
                goOn(this, drawing, post, NONE, 1 << post, 0);
            }
            count /= 2;
        }

        private static void goOn(Rings found, Drawing drawing, int post, int lastLine, int seen, int length) {
            if (length >= MOST_POSTS) {
                return;
            }
            for (int i = 0; i < drawing.degrees[post]; i++) {
                int arm = drawing.armAt(post, i);
                int other = drawing.ends[arm ^ 1];
                if (arm >> 1 == lastLine) {
                    continue;
                }
                if (other == found.start) {
                    found.addRing(length + 1);
                } else if (other > found.start && (seen >> other & 1) == 0) {
                    goOn(found, drawing, other, arm >> 1, seen | 1 << other, length + 1);
                }
            }
        }

        private void addRing(int length) {
            count++;
            girth = girth == 0 ? length : Math.min(girth, length);
        }
    }

    /** LIKE: once one state is sent somewhere, where all others go is settled, if all hang together. */
    private static final class Likeness {
        private final Walker here = new Walker();
        private final Walker there = new Walker();
        private final int[] sentTo = new int[MOST_STATES];
        private final int[] queue = new int[MOST_STATES];
        private int queued = 0;

        int waysBetween(Drawing one, Drawing other) {
            if (!isWhole(one) || !isWhole(other)) {
                return UNTOLD;
            }
            if (one.lines != other.lines) {
                return 0;
            }
            here.enter(one);
            there.enter(other);
            int ways = 0;
            for (int goal = 0; goal < 2 * there.arms; goal++) {
                if (fits(goal)) {
                    ways++;
                }
            }
            return ways;
        }

        private static boolean isWhole(Drawing drawing) {
            return drawing.lines > 0 && drawing.countParts() == 1;
        }

        private boolean fits(int goal) {
            Arrays.fill(sentTo, NONE);
            queued = 0;
            boolean fits = send(0, goal);
            for (int k = 0; k < MOST_STATES && k < queued && fits; k++) {
                int state = queue[k];
                int image = sentTo[state];
                fits = send(here.otherSense(state), there.otherSense(image))
                        && send(here.next(state), there.next(image))
                        && send(here.opposite(state), there.opposite(image));
            }
            return fits;
        }

        private boolean send(int state, int image) {
            if (sentTo[state] != NONE || queued >= MOST_STATES) {
                return sentTo[state] == image;
            }
            sentTo[state] = image;
            queue[queued] = state;
            queued++;
            return true;
        }
    }

    /** COLOURS of FACES none of which is BESIDE itself. */
    private static final class Colouring {
        private final int[] painted = new int[MOST_FACES];

        int fewest(Tracing faces) {
            for (int most = 0; most < faces.count; most++) {
                if (paint(faces, painted, 0, 0, most)) {
                    return most;
                }
            }
            return faces.count;
        }

        /** Faces from one on get colours; used: how many the ones ahead have, of which one new is as good as any. */
        private static boolean paint(Tracing faces, int[] painted, int face, int used, int most) {
            if (face >= faces.count || face >= MOST_FACES) {
                return true;
            }
            for (int colour = 0; colour <= used && colour < most; colour++) {
                if (isFree(faces, painted, face, colour)) {
                    painted[face] = colour;
                    if (paint(faces, painted, face + 1, Math.max(used, colour + 1), most)) {
                        return true;
                    }
                }
            }
            return false;
        }

        private static boolean isFree(Tracing faces, int[] painted, int face, int colour) {
            for (int other = 0; other < face; other++) {
                if (painted[other] == colour && (faces.neighbours[face] >> other & 1) != 0) {
                    return false;
                }
            }
            return true;
        }
    }
}
