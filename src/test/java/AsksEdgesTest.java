/** Sentences on nodes, asks and counts that name an edge: parts 3 and 4 of the Terms, promises 25 to 29. */
public final class AsksEdgesTest {
    private static final Due T = new Due();
    private static final Twins TWINS = new Twins(T);
    // Nodes 0 to 15: if l 3 r k, max min + 7 c - c 1 * c c.
    private static final String TEXT = "cell if l 3 r k;cell max min + 7 c - c 1 * c c;";

    public static void main(String[] args) {
        kindsTold();
        kindRefused();
        asEachKind();
        asRefused();
        asKind();
        howManyNodes();
        sizes();
        marks();
        askRefused();
        traceEmptyAhead();
        traceEnds();
        counts();
        countsAtTheirMost();
        countRefused();
        T.end();
    }

    private static BackBay made() {
        BackBay x = new BackBay();
        Due.read(x, TEXT);
        return x;
    }

    private static void kindsTold() {
        T.of("It is told as the last that fits");
        String[] words = {"7", "l", "c", "r", "k", "+ 1 1", "- 1 1", "* 1 1", "min 1 1", "max 1 1", "if 1 1 1 1"};
        int[] kinds = {1, 2, 2, 2, 2, 3, 3, 3, 4, 4, 5};
        for (int i = 0; i < words.length; i++) {
            BackBay x = new BackBay();
            Due.read(x, "cell " + words[i] + ";");
            T.due("kind of " + words[i], x.kind(0), kinds[i]);
        }
    }

    private static void kindRefused() {
        T.of("The KIND of a NODE, as it is told. BAD.");
        T.due("the last node", made().kind(15), 2);
        T.due("none behind it", made().kind(16), Due.BAD);
        for (int node : Due.outside(0, 15)) {
            TWINS.refused(Twins.Made.FULL, "kind of " + node, x -> x.kind(node), Due.BAD);
        }
        for (int node : Due.outside(0, -1)) {
            TWINS.refused(Twins.Made.NEW, "kind of " + node, x -> x.kind(node), Due.BAD);
        }
        BackBay x = made();
        Due.read(x, "cell c;");
        T.due("the node that is left", x.kind(0), 2);
        T.due("a node there was", x.kind(1), Due.BAD);
    }

    private static void asEachKind() {
        T.of("A NODE is taken as one of a KIND (0 .. 5): how many NODES it has.");
        int[] nodes = {0, 1, 2, 5, 7};
        int[] sizes = {5, 1, 1, 11, 3};
        // Which kinds the fork, the l, the number, the max and the + are.
        String[] fits = {"05", "012", "01", "034", "03"};
        for (int i = 0; i < nodes.length; i++) {
            for (int kind = 0; kind <= 5; kind++) {
                boolean is = fits[i].indexOf('0' + kind) >= 0;
                BackBay x = made();
                T.due("node " + nodes[i] + " as " + kind, x.as(nodes[i], kind), is ? sizes[i] : Due.KIND);
                T.due("status", x.status(), is ? 0 : 3);
            }
        }
    }

    private static void asRefused() {
        T.of("as: BAD");
        for (int node : Due.outside(0, 15)) {
            TWINS.refused(Twins.Made.FULL, "node " + node, x -> x.as(node, 0), Due.BAD);
        }
        for (int node : Due.outside(0, -1)) {
            TWINS.refused(Twins.Made.NEW, "node " + node, x -> x.as(node, 0), Due.BAD);
        }
        for (int kind : Due.outside(0, 5)) {
            TWINS.refused("kind " + kind, x -> x.as(0, kind), Due.BAD);
        }
        T.due("the last node", made().as(15, 0), 1);
    }

    private static void asKind() {
        T.of("as: KIND: it is no such one.");
        for (int kind = 1; kind <= 4; kind++) {
            int k = kind;
            TWINS.refused(Twins.Made.FILLED, "a fork as " + k, x -> x.as(0, k), Due.KIND);
        }
        for (int kind : new int[] {3, 4, 5}) {
            TWINS.refused(Twins.Made.FILLED, "a c as " + kind, x -> x.as(1, kind), Due.KIND);
        }
        for (int kind : new int[] {2, 3, 4, 5}) {
            TWINS.refused(Twins.Made.FILLED, "a number as " + kind, x -> x.as(12, kind), Due.KIND);
        }
        for (int kind : new int[] {1, 2, 4, 5}) {
            TWINS.refused(Twins.Made.FILLED, "a + as " + kind, x -> x.as(3, kind), Due.KIND);
        }
        for (int kind : new int[] {1, 2, 5}) {
            TWINS.refused(Twins.Made.FILLED, "a max as " + kind, x -> x.as(9, kind), Due.KIND);
        }
    }

    private static void howManyNodes() {
        T.of("how many NODES it has, itself too");
        BackBay x = made();
        int[] sizes = {5, 1, 1, 1, 1, 11, 7, 3, 1, 1, 3, 1, 1, 3, 1, 1};
        for (int node = 0; node < sizes.length; node++) {
            T.due("of " + node, x.as(node, 0), sizes[node]);
        }
        Due.read(x, "cell + + + c c + c c + + c c if c c + c c c;");
        T.due("the most there can be", x.as(0, 3), 19);
        T.due("the least there can be", x.as(18, 2), 1);
    }

    private static void dueAsk(BackBay x, int node, int what, int answer, int... trace) {
        T.due("ask " + node + ", " + what, x.ask(node, what), answer);
        for (int i = 0; i <= 16; i++) {
            T.due("trace " + i + " of ask " + node + ", " + what, x.trace(i), i < trace.length ? trace[i] : Due.NONE);
        }
    }

    private static void sizes() {
        T.of("ASKS of NODES, by BODIES that are their own, each of which leaves its number in THE TRACE as it begins: 0 SIZE");
        BackBay x = made();
        dueAsk(x, 2, 0, 1, 10);
        dueAsk(x, 1, 0, 1 + 2 * (1 + 100), 11, 10, 22, 21, 20);
        dueAsk(x, 15, 0, 1 + 2 * (15 + 100), 11, 10, 22, 21, 20);
        dueAsk(x, 7, 0, 2 * 3, 12, 10);
        dueAsk(x, 5, 0, 2 * 11 + 5 + 11, 13, 12, 10, 23, 20);
        dueAsk(x, 0, 0, 5 - 0, 14, 10, 20);
        BackBay y = new BackBay();
        Due.read(y, "cell + + + + c c c c if c c c c;");
        dueAsk(y, 8, 0, 5 - 8, 14, 10, 20);
    }

    private static void marks() {
        T.of("ASKS of NODES, by BODIES that are their own, each of which leaves its number in THE TRACE as it begins: 1 MARK");
        BackBay x = made();
        dueAsk(x, 0, 1, 0, 20);
        dueAsk(x, 7, 1, 7, 20);
        dueAsk(x, 2, 1, 2 + 100, 21, 20);
        dueAsk(x, 1, 1, 2 * (1 + 100), 22, 21, 20);
        dueAsk(x, 15, 1, 2 * (15 + 100), 22, 21, 20);
        dueAsk(x, 5, 1, 5 + 11, 23, 20);
    }

    private static void askRefused() {
        T.of("An ASK (0, 1) of a NODE. BAD.");
        for (int node : Due.outside(0, 15)) {
            TWINS.refused(Twins.Made.FULL, "ask 0 of " + node, x -> x.ask(node, 0), Due.BAD);
            TWINS.refused(Twins.Made.FULL, "ask 1 of " + node, x -> x.ask(node, 1), Due.BAD);
        }
        for (int node : Due.outside(0, -1)) {
            TWINS.refused(Twins.Made.NEW, "ask of " + node, x -> x.ask(node, 0), Due.BAD);
        }
        for (int what : Due.outside(0, 1)) {
            TWINS.refused("ask " + what, x -> x.ask(0, what), Due.BAD);
        }
    }

    private static void traceEmptyAhead() {
        T.of("THE TRACE is empty ahead of it.");
        BackBay x = made();
        T.due("before an ask", x.trace(0), Due.NONE);
        dueAsk(x, 5, 0, 38, 13, 12, 10, 23, 20);
        dueAsk(x, 2, 0, 1, 10);
        dueAsk(x, 5, 0, 38, 13, 12, 10, 23, 20);
        dueAsk(x, 0, 1, 0, 20);
        Due.read(x, "cell c;");
        T.due("a text leaves it", x.trace(0), 20);
        x.ask(0, 2);
        T.due("a refused ask leaves it", x.trace(0), 20);
        T.due("and adds nothing", x.trace(1), Due.NONE);
    }

    private static void traceEnds() {
        T.of("Number i of THE TRACE; NONE. (the first 16)");
        BackBay x = made();
        x.ask(5, 0);
        T.due("the first", x.trace(0), 13);
        T.due("the last", x.trace(4), 20);
        for (int i : new int[] {-1, 5, 15, 16, 17, Integer.MIN_VALUE, Integer.MAX_VALUE}) {
            T.due("trace " + i, x.trace(i), -1000000);
        }
        BackBay y = new BackBay();
        for (int i : new int[] {-1, 0, 15, 16}) {
            T.due("trace " + i + " of a new object", y.trace(i), -1000000);
        }
    }

    private static void counts() {
        T.of("How many: 0 ROWS, 1 STENCILS, 2 NODES, 3 CELLS, 4 GAUGES, 5 those that are OUT, 6 STRIPPINGS, 7 bytes on the tape.");
        long[] none = {0, 0, 0, 4, 0, 0, 0, 0};
        BackBay x = new BackBay();
        for (int what = 0; what < 8; what++) {
            T.due("of a new object " + what, x.count(what), none[what]);
        }
        long[] some = {4, 2, 16, 5, 3, 1, 2, 7};
        BackBay y = Twins.Made.FILLED.make();
        for (int what = 0; what < 8; what++) {
            T.due("of a filled object " + what, y.count(what), some[what]);
        }
        y.out(2, 1);
        T.due("out, its cell not being there", y.count(5), 2);
    }

    private static void countsAtTheirMost() {
        T.of("How many .. (all places full)");
        BackBay x = new BackBay();
        for (int row = 0; row < 8; row++) {
            x.row(row, 0, 0);
        }
        String nineteen = "cell + + + c c + c c + + c c if c c + c c c;";
        Due.read(x, nineteen + nineteen + nineteen);
        x.bay(10);
        for (int i = 0; i < 12; i++) {
            x.gauge(9, 20, 9, 9);
            x.out(i, 1);
            x.keep();
        }
        for (int i = 0; i < 60; i++) {
            x.feed(0, 5);
        }
        long[] most = {8, 3, 57, 10, 12, 12, 6, 300};
        for (int what = 0; what < 8; what++) {
            T.due("count " + what, x.count(what), most[what]);
        }
    }

    private static void countRefused() {
        T.of("count: BAD.");
        for (int what : Due.outside(0, 7)) {
            TWINS.refused("count " + what, x -> x.count(what), Due.BAD);
        }
    }
}
