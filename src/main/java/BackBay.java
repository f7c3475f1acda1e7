import java.util.Arrays;

/**
 * A bay of cells stepped forward by stencils and gone back over for slopes.
 * What each call promises stands in the project's document.
 */
public final class BackBay {
    public static final int NONE = -1000000;
    public static final long NOT = -9000000000000000000L;

    private static final long BAD = NOT - 1;
    private static final long STATE = NOT - 2;
    private static final long FULL = NOT - 3;

    private static final int NULL = 1;
    private static final int PLACE = 2;
    private static final int KIND = 3;
    private static final int SIZE = 4;
    private static final int STORE = 5;

    private static final int ROWS = 8;
    private static final int MOST_ITEMS = 20;
    private static final int MOST_BYTES = 300;
    private static final int MOST_FED = 8;
    private static final int MOST_STENCILS = 3;
    private static final int MOST_NODES_OF_ONE = 20;
    private static final int MOST_NODES = MOST_STENCILS * MOST_NODES_OF_ONE;
    private static final int MOST_BELOW = 6;
    private static final int LEAST_CELLS = 2;
    private static final int MOST_CELLS = 10;
    private static final int MOST_STRIPS = 9;
    private static final int MOST_STEPS = 40;
    private static final int MOST_GAUGES = 12;
    private static final int MOST_GAUGE_STEP = 20;
    private static final int MOST_WEIGHT = 9;
    private static final int MOST_PLACES = 6;
    private static final int MOST_STRIPPINGS = 6;
    private static final int MOST_TRACED = 16;

    // What a node is. The first four also number the worths that a cell sees.
    private static final int LEFT = 0;
    private static final int OWN = 1;
    private static final int RIGHT = 2;
    private static final int STRIPS = 3;
    private static final int NUMBER = 4;
    private static final int PLUS = 5;
    private static final int MINUS = 6;
    private static final int TIMES = 7;
    private static final int MIN = 8;
    private static final int MAX = 9;
    private static final int IF = 10;

    // Tokens that begin no node stand above those that do.
    private static final int CELL = 11;
    private static final int SEMICOLON = 12;
    private static final int END = 13;
    private static final int NO_TOKEN = 14;

    private static final int[] PARTS = {0, 0, 0, 0, 0, 2, 2, 2, 2, 2, 4};

    private static final int ANY_NODE = 0;
    private static final int LEAF = 1;
    private static final int SEEN = 2;
    private static final int PAIR = 3;
    private static final int CHOSEN = 4;
    private static final int FORK = 5;

    private static final int[] KINDS = {SEEN, SEEN, SEEN, SEEN, LEAF, PAIR, PAIR, PAIR, CHOSEN, CHOSEN, FORK};
    // The kind that each kind is, too; NONE above the topmost.
    private static final int[] KIND_ABOVE = {NONE, ANY_NODE, LEAF, ANY_NODE, PAIR, ANY_NODE};

    private final Row[] rows = new Row[ROWS];
    private int finding;
    private final Tape tape = new Tape();
    private Stencils text = new Stencils();
    // A text is read in here, so that the stencils stay if it has a fault.
    private Stencils draft = new Stencils();
    private final Bay bay = new Bay();
    private final Gauges gauges = new Gauges();
    private final Desk desk = new Desk();
    private final Course course = new Course(bay, desk);
    private final Course otherCourse = new Course(bay, desk);
    private final Slopes slopes = new Slopes();
    private final Redoing redoing = new Redoing();
    private final Strippings strippings = new Strippings();
    private final Asks asks = new Asks();

    public BackBay() {
        for (int row = 0; row < ROWS; row++) {
            rows[row] = new Row();
        }
    }

    // ---- rows

    public long row(int row, int lane, int n) {
        if (!isRow(row) || !isWithin(lane, 0, Row.INTS) || n > MOST_ITEMS) {
            return BAD;
        }
        if (n < 0) {
            return found(SIZE);
        }
        rows[row].begin(lane, n);
        return foundNothing(n);
    }

    public long set(int row, int i, int v) {
        if (!isRow(row)) {
            return BAD;
        }
        Row it = rows[row];
        if (!it.there) {
            return found(NULL);
        }
        if (!it.has(i, 1)) {
            return found(PLACE);
        }
        return foundNothing(it.put(i, v));
    }

    public long copy(int a, int i, int b, int j, int n) {
        if (!isRow(a) || !isRow(b)) {
            return BAD;
        }
        Row from = rows[a];
        Row to = rows[b];
        if (!from.there || !to.there) {
            return found(NULL);
        }
        if (from.lane != to.lane) {
            return found(STORE);
        }
        if (!from.has(i, n) || !to.has(j, n)) {
            return found(PLACE);
        }
        System.arraycopy(from.items, i, to.items, j, n);
        return foundNothing(n);
    }

    public long drop(int row) {
        if (!isRow(row)) {
            return BAD;
        }
        Row it = rows[row];
        if (!it.there) {
            return found(NULL);
        }
        it.there = false;
        return foundNothing(it.size);
    }

    // ---- stencils

    public long feed(long w, int n) {
        if (!isWithin(n, 1, MOST_FED)) {
            return BAD;
        }
        if (n > MOST_BYTES - tape.size) {
            return FULL;
        }
        tape.add(w, n);
        return tape.size;
    }

    public long stencils() {
        boolean well = tape.readText(draft);
        tape.size = 0;
        if (!well) {
            return NOT - 100 - tape.place;
        }
        Stencils old = text;
        text = draft;
        draft = old;
        return text.nodes;
    }

    public int fault() {
        return tape.latestFault;
    }

    // ---- the bay

    public long bay(int n) {
        if (!isWithin(n, LEAST_CELLS, MOST_CELLS)) {
            return BAD;
        }
        int had = bay.cells;
        bay.begin(n);
        return had;
    }

    public long start(int row, int i) {
        if (!isRow(row)) {
            return BAD;
        }
        Row it = rows[row];
        if (!it.there) {
            return found(NULL);
        }
        if (!it.has(i, bay.cells)) {
            return found(PLACE);
        }
        System.arraycopy(it.items, i, bay.start, 0, bay.cells);
        return foundNothing(bay.cells);
    }

    public long strip(int cell, int v) {
        if (!bay.has(cell) || !isWithin(v, 0, MOST_STRIPS)) {
            return BAD;
        }
        int was = bay.strips[cell];
        bay.strips[cell] = v;
        return was;
    }

    public long edge(int side, int v) {
        if (!isWithin(side, 0, 1)) {
            return BAD;
        }
        int was = bay.edges[side];
        bay.edges[side] = v;
        return was;
    }

    public long cell(int cell, int steps) {
        if (!bay.has(cell) || !isWithin(steps, 0, MOST_STEPS)) {
            return BAD;
        }
        course.run(text, bay.strips, steps);
        return course.behind(steps, cell);
    }

    // ---- wishes, slopes

    public long gauge(int cell, int step, int weight, int wanted) {
        if (!isWithin(cell, 0, MOST_CELLS - 1) || !isWithin(step, 0, MOST_GAUGE_STEP)
                || !isWithin(weight, -MOST_WEIGHT, MOST_WEIGHT)) {
            return BAD;
        }
        if (gauges.size >= MOST_GAUGES) {
            return FULL;
        }
        gauges.add(cell, step, weight, wanted);
        return gauges.size;
    }

    public long out(int gauge, int out) {
        if (!isWithin(gauge, 0, gauges.size - 1) || !isWithin(out, 0, 1)) {
            return BAD;
        }
        gauges.isOut[gauge] = out == 1;
        return 1;
    }

    public long wish(int what) {
        switch (what) {
            case 0:
                return wishNow();
            case 1:
                return gauges.last(bay.cells);
            case 2:
                return knotsNow();
            default:
                return BAD;
        }
    }

    public long slope(int what, int i) {
        if (!isWithin(what, 0, 2)) {
            return BAD;
        }
        boolean there = what == 2 ? isWithin(i, 0, 1) : bay.has(i);
        if (!there) {
            return BAD;
        }
        course.run(text, bay.strips, gauges.last(bay.cells));
        slopes.goBack(text, bay, gauges, course);
        if (what == 0) {
            return slopes.ofStrips[i];
        }
        return what == 1 ? slopes.ofStart[i] : slopes.ofEdges[i];
    }

    public long push(int cell, int h) {
        if (!bay.has(cell)) {
            return BAD;
        }
        return wishWith(cell, h) - wishNow();
    }

    public long again(int n, int k, int what) {
        if (!isWithin(n, 1, MOST_STEPS) || !isWithin(k, 0, MOST_PLACES) || !isWithin(what, 0, 1)) {
            return BAD;
        }
        redoing.fill();
        int at = Redoing.at(n, k);
        return what == 0 ? redoing.fewest[at] : redoing.where[at];
    }

    // ---- strips

    public int move() {
        int now = wishNow();
        slopes.goBack(text, bay, gauges, course);
        for (int tries = 0; tries < bay.cells; tries++) {
            int cell = slopes.steepestStrips(bay.cells);
            if (cell == NONE) {
                return NONE;
            }
            int more = slopes.ofStrips[cell] > 0 ? -1 : 1;
            if (helps(cell, more, now)) {
                bay.strips[cell] += more;
                return cell;
            }
            // It has been tried: without a slope the next steepest comes up.
            slopes.ofStrips[cell] = 0;
        }
        return NONE;
    }

    public int rest() {
        int now = wishNow();
        for (int cell = 0; cell < bay.cells; cell++) {
            if (helps(cell, 1, now) || helps(cell, -1, now)) {
                return 0;
            }
        }
        return 1;
    }

    public long keep() {
        if (strippings.size >= MOST_STRIPPINGS) {
            return FULL;
        }
        strippings.add(bay);
        return strippings.size - 1;
    }

    public long lay(int stripping) {
        if (!strippings.has(stripping)) {
            return BAD;
        }
        if (strippings.cells[stripping] != bay.cells) {
            return STATE;
        }
        System.arraycopy(strippings.strips[stripping], 0, bay.strips, 0, bay.cells);
        return 1;
    }

    public long apart(int a, int b) {
        if (!strippings.has(a) || !strippings.has(b)) {
            return BAD;
        }
        if (strippings.cells[a] != bay.cells || strippings.cells[b] != bay.cells) {
            return STATE;
        }
        int last = gauges.last(bay.cells);
        course.run(text, strippings.strips[a], last);
        otherCourse.run(text, strippings.strips[b], last);
        return course.farthestFrom(otherCourse, last);
    }

    // ---- asked

    public long kind(int node) {
        return text.has(node) ? text.kindOf(node) : BAD;
    }

    public long as(int node, int kind) {
        if (!text.has(node) || !isWithin(kind, ANY_NODE, FORK)) {
            return BAD;
        }
        if (!isKind(text.kindOf(node), kind)) {
            return found(KIND);
        }
        return foundNothing(text.sizes[node]);
    }

    public long ask(int node, int what) {
        if (!text.has(node) || !isWithin(what, 0, 1)) {
            return BAD;
        }
        asks.traced = 0;
        return what == 0 ? asks.size(text, node) : asks.mark(text, node);
    }

    public int trace(int i) {
        return isWithin(i, 0, asks.traced - 1) ? asks.bodies[i] : NONE;
    }

    public long count(int what) {
        switch (what) {
            case 0:
                return rowsThere();
            case 1:
                return text.stencils;
            case 2:
                return text.nodes;
            case 3:
                return bay.cells;
            case 4:
                return gauges.size;
            case 5:
                return gauges.howManyOut();
            case 6:
                return strippings.size;
            case 7:
                return tape.size;
            default:
                return BAD;
        }
    }

    public int status() {
        return finding;
    }

    // ---- what several calls share

    private static boolean isWithin(int n, int least, int most) {
        return n >= least && n <= most;
    }

    private static boolean isRow(int row) {
        return isWithin(row, 0, ROWS - 1);
    }

    private long found(int what) {
        finding = what;
        return NOT - 10 - what;
    }

    private long foundNothing(long answer) {
        finding = 0;
        return answer;
    }

    private int rowsThere() {
        int there = 0;
        for (int row = 0; row < ROWS; row++) {
            if (rows[row].there) {
                there++;
            }
        }
        return there;
    }

    /** Leaves the run of the bay as it is in the course, for those who go on from it. */
    private int wishNow() {
        return wishWith(0, 0);
    }

    private int wishWith(int cell, int more) {
        int was = bay.strips[cell];
        bay.strips[cell] = was + more;
        course.run(text, bay.strips, gauges.last(bay.cells));
        bay.strips[cell] = was;
        return gauges.total(course, bay.cells);
    }

    private int knotsNow() {
        int last = gauges.last(bay.cells);
        course.run(text, bay.strips, last);
        return course.knots(text, bay.strips, last);
    }

    private boolean helps(int cell, int more, int now) {
        return isWithin(bay.strips[cell] + more, 0, MOST_STRIPS) && wishWith(cell, more) < now;
    }

    private static boolean isKind(int told, int wanted) {
        int kind = told;
        for (int up = 0; up < KIND_ABOVE.length && kind != NONE; up++) {
            if (kind == wanted) {
                return true;
            }
            kind = KIND_ABOVE[kind];
        }
        return false;
    }

    /** A row: its place stays when it is missing, so that no call makes one anew. */
    private static final class Row {
        static final int BYTES = 0;
        static final int SHORTS = 1;
        static final int INTS = 2;

        final int[] items = new int[MOST_ITEMS];
        boolean there;
        int lane;
        int size;

        void begin(int newLane, int n) {
            there = true;
            lane = newLane;
            size = n;
            Arrays.fill(items, 0);
        }

        boolean has(int from, int n) {
            return from >= 0 && n >= 0 && n <= size - from;
        }

        int put(int i, int v) {
            items[i] = lane == BYTES ? (byte) v : lane == SHORTS ? (short) v : v;
            return items[i];
        }
    }

    /** The tape, read token by token, one ahead of what is taken. */
    private static final class Tape {
        private static final int MISPLACED = 1;
        private static final int TOO_MANY = 3;
        private static final int MOST_FIGURES = 4;

        int size;
        private final int[] bytes = new int[MOST_BYTES];
        private int token;
        private int tokenBegin;
        private int tokenEnd;
        private int number;
        int latestFault;
        int place;

        void add(long w, int n) {
            for (int lower = n - 1; lower >= 0; lower--) {
                bytes[size] = (int) (w >> (8 * lower)) & 255;
                size++;
            }
        }

        boolean readText(Stencils draft) {
            draft.clear();
            tokenEnd = 0;
            advance();
            boolean well = readStencil(draft);
            // The one beyond the most is a fault, so nothing is left unread here.
            for (int more = 0; more < MOST_STENCILS && well && token != END; more++) {
                well = readStencil(draft);
            }
            return well;
        }

        private boolean readStencil(Stencils draft) {
            if (token != CELL) {
                return fail(MISPLACED);
            }
            if (draft.stencils >= MOST_STENCILS) {
                return fail(TOO_MANY);
            }
            advance();
            if (!readNode(draft, 1)) {
                return false;
            }
            if (token != SEMICOLON) {
                return fail(MISPLACED);
            }
            draft.closeStencil();
            advance();
            return true;
        }

        private boolean readNode(Stencils draft, int depth) {
            if (token > IF) {
                return fail(MISPLACED);
            }
            if (depth > MOST_BELOW || draft.nodesOfOpen() >= MOST_NODES_OF_ONE) {
                return fail(TOO_MANY);
            }
            int parts = PARTS[token];
            int node = draft.addNode(token, number);
            advance();
            for (int part = 0; part < parts; part++) {
                if (!readNode(draft, depth + 1)) {
                    return false;
                }
            }
            draft.closeNode(node);
            return true;
        }

        private boolean fail(int fault) {
            latestFault = fault;
            place = tokenBegin;
            return false;
        }

        private void advance() {
            int at = tokenEnd;
            while (at < size && (bytes[at] == ' ' || bytes[at] == '\n')) {
                at++;
            }
            tokenBegin = at;
            tokenEnd = at + 1;
            if (at >= size) {
                tokenEnd = at;
                token = END;
            } else if (isWithin(bytes[at], 'a', 'z')) {
                tokenEnd = endOf('a', 'z');
                token = nameToken();
            } else if (isWithin(bytes[at], '0', '9')) {
                tokenEnd = endOf('0', '9');
                token = numberToken();
            } else {
                token = signToken(bytes[at]);
            }
        }

        private int endOf(int least, int most) {
            int at = tokenBegin;
            while (at < size && isWithin(bytes[at], least, most)) {
                at++;
            }
            return at;
        }

        private int numberToken() {
            if (tokenEnd - tokenBegin > MOST_FIGURES) {
                return NO_TOKEN;
            }
            number = 0;
            for (int at = tokenBegin; at < tokenEnd; at++) {
                number = 10 * number + bytes[at] - '0';
            }
            return NUMBER;
        }

        private int nameToken() {
            if (tokenEnd - tokenBegin == 1) {
                return letterToken(bytes[tokenBegin]);
            }
            if (isName("cell")) {
                return CELL;
            }
            if (isName("min")) {
                return MIN;
            }
            if (isName("max")) {
                return MAX;
            }
            return isName("if") ? IF : NO_TOKEN;
        }

        private boolean isName(String name) {
            if (tokenEnd - tokenBegin != name.length()) {
                return false;
            }
            for (int i = 0; i < name.length(); i++) {
                if (bytes[tokenBegin + i] != name.charAt(i)) {
                    return false;
                }
            }
            return true;
        }

        private static int letterToken(int letter) {
            switch (letter) {
                case 'l':
                    return LEFT;
                case 'c':
                    return OWN;
                case 'r':
                    return RIGHT;
                case 'k':
                    return STRIPS;
                default:
                    return NO_TOKEN;
            }
        }

        private static int signToken(int sign) {
            switch (sign) {
                case ';':
                    return SEMICOLON;
                case '+':
                    return PLUS;
                case '-':
                    return MINUS;
                case '*':
                    return TIMES;
                default:
                    return NO_TOKEN;
            }
        }
    }

    /** The nodes of all stencils as they stand: a node's first part is the node behind it. */
    private static final class Stencils {
        int stencils;
        int nodes;
        // Where each stencil begins; one more, for the end of the last.
        final int[] begins = new int[MOST_STENCILS + 1];
        final int[] ops = new int[MOST_NODES];
        final int[] numbers = new int[MOST_NODES];
        final int[] sizes = new int[MOST_NODES];
        final int[] seconds = new int[MOST_NODES];
        final int[] thirds = new int[MOST_NODES];
        final int[] fourths = new int[MOST_NODES];

        void clear() {
            stencils = 0;
            nodes = 0;
        }

        boolean has(int node) {
            return isWithin(node, 0, nodes - 1);
        }

        int kindOf(int node) {
            return KINDS[ops[node]];
        }

        int nodesOfOpen() {
            return nodes - begins[stencils];
        }

        int addNode(int op, int number) {
            ops[nodes] = op;
            numbers[nodes] = number;
            nodes++;
            return nodes - 1;
        }

        /** All parts of the node have been read: only then it is known where each begins. */
        void closeNode(int node) {
            sizes[node] = nodes - node;
            if (ops[node] >= PLUS) {
                seconds[node] = behind(node + 1);
            }
            if (ops[node] == IF) {
                thirds[node] = behind(seconds[node]);
                fourths[node] = behind(thirds[node]);
            }
        }

        void closeStencil() {
            stencils++;
            begins[stencils] = nodes;
        }

        private int behind(int node) {
            return node + sizes[node];
        }
    }

    private static final class Bay {
        int cells;
        final int[] start = new int[MOST_CELLS];
        final int[] strips = new int[MOST_CELLS];
        final int[] edges = new int[2];

        Bay() {
            begin(4);
        }

        void begin(int n) {
            cells = n;
            Arrays.fill(start, 0);
            Arrays.fill(strips, 1);
        }

        boolean has(int cell) {
            return isWithin(cell, 0, cells - 1);
        }
    }

    private static final class Gauges {
        int size;
        final boolean[] isOut = new boolean[MOST_GAUGES];
        private final int[] cells = new int[MOST_GAUGES];
        private final int[] steps = new int[MOST_GAUGES];
        private final int[] weights = new int[MOST_GAUGES];
        private final int[] wanted = new int[MOST_GAUGES];

        void add(int cell, int step, int weight, int wantedThere) {
            cells[size] = cell;
            steps[size] = step;
            weights[size] = weight;
            wanted[size] = wantedThere;
            size++;
        }

        int howManyOut() {
            int many = 0;
            for (int gauge = 0; gauge < size; gauge++) {
                if (isOut[gauge]) {
                    many++;
                }
            }
            return many;
        }

        int last(int cellsThere) {
            int last = 0;
            for (int gauge = 0; gauge < size; gauge++) {
                if (counts(gauge, cellsThere)) {
                    last = Math.max(last, steps[gauge]);
                }
            }
            return last;
        }

        int total(Course course, int cellsThere) {
            int total = 0;
            for (int gauge = 0; gauge < size; gauge++) {
                if (counts(gauge, cellsThere)) {
                    int off = offBy(gauge, course);
                    total += weights[gauge] * off * off;
                }
            }
            return total;
        }

        void addSlopes(int step, Course course, int cellsThere, int[] slopes) {
            for (int gauge = 0; gauge < size; gauge++) {
                if (steps[gauge] == step && counts(gauge, cellsThere)) {
                    slopes[cells[gauge]] += 2 * weights[gauge] * offBy(gauge, course);
                }
            }
        }

        private boolean counts(int gauge, int cellsThere) {
            return !isOut[gauge] && cells[gauge] < cellsThere;
        }

        private int offBy(int gauge, Course course) {
            return course.behind(steps[gauge], cells[gauge]) - wanted[gauge];
        }
    }

    /** Works out one stencil for one cell, and goes back over it. */
    private static final class Desk {
        private final int[] worths = new int[MOST_NODES];
        private final int[] slopes = new int[MOST_NODES];
        private final boolean[] isWorkedOut = new boolean[MOST_NODES];
        private final int[] seen = new int[NUMBER];
        final int[] seenSlopes = new int[NUMBER];

        int workOut(Stencils text, int stencil, int left, int own, int right, int strips) {
            seen[LEFT] = left;
            seen[OWN] = own;
            seen[RIGHT] = right;
            seen[STRIPS] = strips;
            int first = text.begins[stencil];
            // A node's parts stand behind it, so the last node comes first. The side of
            // an if that is not taken is harmless: no rule here can fail.
            for (int node = text.begins[stencil + 1] - 1; node >= first; node--) {
                worths[node] = worthOf(text, node);
            }
            return worths[first];
        }

        private int worthOf(Stencils text, int node) {
            int op = text.ops[node];
            switch (op) {
                case NUMBER:
                    return text.numbers[node];
                case PLUS:
                    return worths[node + 1] + worths[text.seconds[node]];
                case MINUS:
                    return worths[node + 1] - worths[text.seconds[node]];
                case TIMES:
                    return worths[node + 1] * worths[text.seconds[node]];
                case MIN:
                case MAX:
                case IF:
                    return worths[taken(text, node)];
                default:
                    return seen[op];
            }
        }

        /** Of a min, a max or an if: the part that it takes its worth from. */
        private int taken(Stencils text, int node) {
            int a = worths[node + 1];
            int b = worths[text.seconds[node]];
            if (text.ops[node] == IF) {
                return a > b ? text.thirds[node] : text.fourths[node];
            }
            boolean first = text.ops[node] == MIN ? a <= b : a >= b;
            return first ? node + 1 : text.seconds[node];
        }

        /** Behind workOut: what the slope of its answer comes to for all that was seen. */
        void goBack(Stencils text, int stencil, int slope) {
            Arrays.fill(seenSlopes, 0);
            int first = text.begins[stencil];
            int end = text.begins[stencil + 1];
            for (int node = first; node < end; node++) {
                slopes[node] = 0;
            }
            slopes[first] = slope;
            for (int node = first; node < end; node++) {
                handDown(text, node);
            }
        }

        private void handDown(Stencils text, int node) {
            int slope = slopes[node];
            int op = text.ops[node];
            int a = node + 1;
            int b = text.seconds[node];
            switch (op) {
                case NUMBER:
                    break;
                case PLUS:
                    slopes[a] += slope;
                    slopes[b] += slope;
                    break;
                case MINUS:
                    slopes[a] += slope;
                    slopes[b] -= slope;
                    break;
                case TIMES:
                    slopes[a] += slope * worths[b];
                    slopes[b] += slope * worths[a];
                    break;
                case MIN:
                case MAX:
                case IF:
                    slopes[taken(text, node)] += slope;
                    break;
                default:
                    seenSlopes[op] += slope;
                    break;
            }
        }

        /** Behind workOut: in how many of the nodes that count as worked out a hair chose. */
        int knots(Stencils text, int stencil) {
            int first = text.begins[stencil];
            int end = text.begins[stencil + 1];
            for (int node = first; node < end; node++) {
                isWorkedOut[node] = node == first;
            }
            int knots = 0;
            for (int node = first; node < end; node++) {
                int op = text.ops[node];
                if (isWorkedOut[node] && op >= PLUS) {
                    isWorkedOut[node + 1] = true;
                    isWorkedOut[text.seconds[node]] = true;
                    if (op >= MIN) {
                        isWorkedOut[taken(text, node)] = true;
                        knots += worths[node + 1] == worths[text.seconds[node]] ? 1 : 0;
                    }
                }
            }
            return knots;
        }
    }

    /** All rows of cells that a run goes through, one more behind each stencil of each step. */
    private static final class Course {
        final Desk desk;
        private final Bay bay;
        private final int[] cells = new int[(MOST_STEPS * MOST_STENCILS + 1) * MOST_CELLS];
        private int rowsOfStep;

        Course(Bay bay, Desk desk) {
            this.bay = bay;
            this.desk = desk;
        }

        void run(Stencils text, int[] strips, int steps) {
            rowsOfStep = text.stencils;
            System.arraycopy(bay.start, 0, cells, 0, bay.cells);
            int row = 0;
            for (int step = 0; step < steps; step++) {
                for (int stencil = 0; stencil < text.stencils; stencil++) {
                    for (int cell = 0; cell < bay.cells; cell++) {
                        cells[(row + 1) * MOST_CELLS + cell] = workOut(text, strips, row, stencil, cell);
                    }
                    row++;
                }
            }
        }

        int behind(int step, int cell) {
            return cells[step * rowsOfStep * MOST_CELLS + cell];
        }

        /** Leaves at the desk what the stencil makes of the cell, out of the row given. */
        int workOut(Stencils text, int[] strips, int row, int stencil, int cell) {
            int at = row * MOST_CELLS + cell;
            int left = cell > 0 ? cells[at - 1] : bay.edges[0];
            int right = cell < bay.cells - 1 ? cells[at + 1] : bay.edges[1];
            return desk.workOut(text, stencil, left, cells[at], right, strips[cell]);
        }

        int knots(Stencils text, int[] strips, int steps) {
            int knots = 0;
            int row = 0;
            for (int step = 0; step < steps; step++) {
                for (int stencil = 0; stencil < text.stencils; stencil++) {
                    for (int cell = 0; cell < bay.cells; cell++) {
                        workOut(text, strips, row, stencil, cell);
                        knots += desk.knots(text, stencil);
                    }
                    row++;
                }
            }
            return knots;
        }

        long farthestFrom(Course other, int last) {
            long most = 0;
            long where = NONE;
            for (int step = 0; step <= last; step++) {
                for (int cell = 0; cell < bay.cells; cell++) {
                    long far = Math.abs((long) behind(step, cell) - other.behind(step, cell));
                    if (far > most) {
                        most = far;
                        where = 16 * step + cell;
                    }
                }
            }
            return where;
        }
    }

    /** Slopes of the wish, got by going back over a course that was run till the last gauge. */
    private static final class Slopes {
        final int[] ofStrips = new int[MOST_CELLS];
        final int[] ofStart = new int[MOST_CELLS];
        final int[] ofEdges = new int[2];
        private final int[] ofRowAhead = new int[MOST_CELLS];

        void goBack(Stencils text, Bay bay, Gauges gauges, Course course) {
            Arrays.fill(ofStrips, 0);
            Arrays.fill(ofStart, 0);
            Arrays.fill(ofEdges, 0);
            int last = gauges.last(bay.cells);
            int row = last * text.stencils;
            for (int step = last; step > 0; step--) {
                gauges.addSlopes(step, course, bay.cells, ofStart);
                for (int stencil = text.stencils - 1; stencil >= 0; stencil--) {
                    row--;
                    goBackOver(text, bay, course, row, stencil);
                }
            }
            gauges.addSlopes(0, course, bay.cells, ofStart);
        }

        /** The slopes of the start are those of whatever row has been come back to. */
        private void goBackOver(Stencils text, Bay bay, Course course, int row, int stencil) {
            Arrays.fill(ofRowAhead, 0);
            for (int cell = 0; cell < bay.cells; cell++) {
                if (ofStart[cell] != 0) {
                    course.workOut(text, bay.strips, row, stencil, cell);
                    course.desk.goBack(text, stencil, ofStart[cell]);
                    handOut(course.desk.seenSlopes, cell, bay.cells - 1);
                }
            }
            System.arraycopy(ofRowAhead, 0, ofStart, 0, MOST_CELLS);
        }

        private void handOut(int[] seenSlopes, int cell, int lastCell) {
            ofRowAhead[cell] += seenSlopes[OWN];
            ofStrips[cell] += seenSlopes[STRIPS];
            if (cell > 0) {
                ofRowAhead[cell - 1] += seenSlopes[LEFT];
            } else {
                ofEdges[0] += seenSlopes[LEFT];
            }
            if (cell < lastCell) {
                ofRowAhead[cell + 1] += seenSlopes[RIGHT];
            } else {
                ofEdges[1] += seenSlopes[RIGHT];
            }
        }

        int steepestStrips(int cells) {
            long most = 0;
            int steepest = NONE;
            for (int cell = 0; cell < cells; cell++) {
                // As a long: the least number of 32 bits has no other side of its own.
                long size = Math.abs((long) ofStrips[cell]);
                if (size > most) {
                    most = size;
                    steepest = cell;
                }
            }
            return steepest;
        }
    }

    /** How few steps are done again, for all numbers of steps and places. */
    private static final class Redoing {
        final int[] fewest = new int[(MOST_STEPS + 1) * (MOST_PLACES + 1)];
        final int[] where = new int[(MOST_STEPS + 1) * (MOST_PLACES + 1)];
        private boolean isFilled;

        static int at(int n, int k) {
            return k * (MOST_STEPS + 1) + n;
        }

        /** Once, and not before it is asked for: most objects never are. */
        void fill() {
            if (isFilled) {
                return;
            }
            isFilled = true;
            Arrays.fill(where, NONE);
            for (int n = 1; n <= MOST_STEPS; n++) {
                fewest[at(n, 0)] = n * (n - 1) / 2;
            }
            for (int k = 1; k <= MOST_PLACES; k++) {
                for (int n = 2; n <= MOST_STEPS; n++) {
                    fillOne(n, k);
                }
            }
        }

        private void fillOne(int n, int k) {
            int here = at(n, k);
            for (int m = 1; m < n; m++) {
                int steps = m + fewest[at(n - m, k - 1)] + fewest[at(m, k)];
                if (m == 1 || steps < fewest[here]) {
                    fewest[here] = steps;
                    where[here] = m;
                }
            }
        }
    }

    private static final class Strippings {
        int size;
        final int[] cells = new int[MOST_STRIPPINGS];
        final int[][] strips = new int[MOST_STRIPPINGS][MOST_CELLS];

        void add(Bay bay) {
            cells[size] = bay.cells;
            System.arraycopy(bay.strips, 0, strips[size], 0, bay.cells);
            size++;
        }

        boolean has(int stripping) {
            return isWithin(stripping, 0, size - 1);
        }
    }

    /** The bodies that answer asks, each named by the kind of node that has it. */
    private static final class Asks {
        final int[] bodies = new int[MOST_TRACED];
        int traced;

        int size(Stencils text, int node) {
            switch (text.kindOf(node)) {
                case SEEN:
                    return sizeOfSeen(text, node);
                case PAIR:
                    return sizeOfPair(text, node);
                case CHOSEN:
                    return sizeOfChosen(text, node);
                case FORK:
                    return sizeOfFork(text, node);
                default:
                    return sizeLent(text, node);
            }
        }

        int mark(Stencils text, int node) {
            switch (text.kindOf(node)) {
                case LEAF:
                    return markOfLeaf(node);
                case SEEN:
                    return markOfSeen(node);
                case CHOSEN:
                    return markOfChosen(text, node);
                default:
                    return markLent(node);
            }
        }

        private int sizeLent(Stencils text, int node) {
            begin(10);
            return text.sizes[node];
        }

        private int sizeOfSeen(Stencils text, int node) {
            begin(11);
            return sizeLent(text, node) + mark(text, node);
        }

        private int sizeOfPair(Stencils text, int node) {
            begin(12);
            return 2 * sizeLent(text, node);
        }

        private int sizeOfChosen(Stencils text, int node) {
            begin(13);
            return sizeOfPair(text, node) + mark(text, node);
        }

        private int sizeOfFork(Stencils text, int node) {
            begin(14);
            return sizeLent(text, node) - mark(text, node);
        }

        private int markLent(int node) {
            begin(20);
            return node;
        }

        private int markOfLeaf(int node) {
            begin(21);
            return markLent(node) + 100;
        }

        private int markOfSeen(int node) {
            begin(22);
            return 2 * markOfLeaf(node);
        }

        private int markOfChosen(Stencils text, int node) {
            begin(23);
            return markLent(node) + text.sizes[node];
        }

        private void begin(int body) {
            if (traced < MOST_TRACED) {
                bodies[traced] = body;
                traced++;
            }
        }
    }
}
