/** Promises 9 to 13: the bay, its start, strips and edges, and cells behind steps. */
public final class BayTest {
    private static final Due T = new Due();

    public static void main(String[] args) {
        bay();
        start();
        strip();
        edge();
        cell();
        rulesOfStencils();
        T.end();
    }

    private static void bay() {
        BackBay x = new BackBay();
        T.due("bay 1", x.bay(1), Due.BAD);
        T.due("bay 11", x.bay(11), Due.BAD);
        T.due("bay 2", x.bay(2), 4);
        T.due("bay 10", x.bay(10), 2);
        T.due("bay 10 again", x.bay(10), 10);
        Due.begin(x, 1, 2, 3);
        x.strip(1, 7);
        x.edge(0, 8);
        x.edge(1, 9);
        x.gauge(0, 0, 1, 1);
        T.due("bay as wide as before", x.bay(3), 3);
        T.due("start is 0", x.cell(1, 0), 0);
        T.due("strips are 1", x.strip(1, 1), 1);
        T.due("the left edge stays", x.edge(0, 0), 8);
        T.due("the right edge stays", x.edge(1, 0), 9);
        T.due("gauges stay", x.count(4), 1);
        Due.begin(x, 1, 2, 3);
        T.due("a refused bay", x.bay(0), Due.BAD);
        T.due("changes nothing", x.cell(2, 0), 3);
        T.due("nor the number of cells", x.count(3), 3);
    }

    private static void start() {
        BackBay x = new BackBay();
        x.row(0, 2, 6);
        for (int i = 0; i < 6; i++) {
            x.set(0, i, 10 * i - 20);
        }
        T.due("start from 1", x.start(0, 1), 4);
        for (int i = 0; i < 4; i++) {
            T.due("cell " + i, x.cell(i, 0), 10 * i - 10);
        }
        T.due("start from 2", x.start(0, 2), 4);
        T.due("start from 3", x.start(0, 3), Due.PLACE);
        T.due("start from -1", x.start(0, -1), Due.PLACE);
        T.due("start from the most", x.start(0, Integer.MAX_VALUE), Due.PLACE);
        T.due("start from the least", x.start(0, Integer.MIN_VALUE), Due.PLACE);
        T.due("start of a missing row", x.start(1, 0), Due.NULL);
        T.due("NULL comes ahead of PLACE", x.start(1, -1), Due.NULL);
        T.due("start of no row", x.start(8, 0), Due.BAD);
        T.due("start of no row", x.start(-1, 0), Due.BAD);
        T.due("what is found changes nothing", x.cell(0, 0), 0);
        T.due("what is found changes nothing", x.cell(3, 0), 30);
        x.set(0, 2, 99);
        T.due("a start is a copy", x.cell(0, 0), 0);
    }

    private static void strip() {
        BackBay x = new BackBay();
        x.bay(3);
        T.due("strip 0", x.strip(0, 9), 1);
        T.due("strip 0", x.strip(0, 0), 9);
        T.due("strip 2", x.strip(2, 5), 1);
        T.due("cell 3", x.strip(3, 5), Due.BAD);
        T.due("cell -1", x.strip(-1, 5), Due.BAD);
        T.due("10 strips", x.strip(0, 10), Due.BAD);
        T.due("-1 strips", x.strip(0, -1), Due.BAD);
        T.due("strips stay", x.strip(0, 1), 0);
        Due.read(x, "cell k;");
        T.due("k of the cell", x.cell(2, 1), 5);
        T.due("k of another cell", x.cell(1, 1), 1);
    }

    private static void edge() {
        BackBay x = new BackBay();
        T.due("left", x.edge(0, Integer.MIN_VALUE), 0);
        T.due("right", x.edge(1, Integer.MAX_VALUE), 0);
        T.due("side 2", x.edge(2, 5), Due.BAD);
        T.due("side -1", x.edge(-1, 5), Due.BAD);
        T.due("left", x.edge(0, 3), Integer.MIN_VALUE);
        T.due("right", x.edge(1, 4), Integer.MAX_VALUE);
        Due.read(x, "cell - l r;");
        T.due("the left edge is seen by the first cell", x.cell(0, 1), 3);
        T.due("the right edge is seen by the last cell", x.cell(3, 1), -4);
    }

    private static void cell() {
        BackBay x = new BackBay();
        Due.begin(x, 5, 6, 7);
        T.due("without stencils", x.cell(2, 40), 7);
        T.due("cell 3", x.cell(3, 0), Due.BAD);
        T.due("cell -1", x.cell(-1, 0), Due.BAD);
        T.due("41 steps", x.cell(0, 41), Due.BAD);
        T.due("-1 steps", x.cell(0, -1), Due.BAD);
        Due.read(x, "cell l;");
        x.edge(0, 9);
        T.due("one step to the right", x.cell(1, 1), 5);
        T.due("two steps", x.cell(2, 2), 5);
        T.due("three steps", x.cell(2, 3), 9);
        Due.read(x, "cell + c 1;");
        T.due("forty steps", x.cell(0, 40), 45);
        Due.read(x, "cell + c 1;cell l;cell * c 2;");
        T.due("stencil by stencil: the edge", x.cell(0, 1), 18);
        T.due("stencil by stencil: the row as it was ahead", x.cell(1, 1), 12);
        T.due("stencil by stencil: twice", x.cell(2, 2), 2 * (12 + 1));
        T.due("the start stays", x.cell(0, 0), 5);
    }

    private static void dueStep(String node, int due) {
        BackBay x = new BackBay();
        Due.begin(x, 3, -7, 11);
        x.strip(1, 4);
        Due.read(x, "cell " + node + ";");
        T.due(node, x.cell(1, 1), due);
    }

    private static void rulesOfStencils() {
        dueStep("l", 3);
        dueStep("c", -7);
        dueStep("r", 11);
        dueStep("k", 4);
        dueStep("1234", 1234);
        dueStep("+ l r", 14);
        dueStep("- l r", -8);
        dueStep("* c r", -77);
        dueStep("min l c", -7);
        dueStep("min c l", -7);
        dueStep("max l c", 3);
        dueStep("max c l", 3);
        dueStep("if l c 1 2", 1);
        dueStep("if c l 1 2", 2);
        dueStep("if l l 1 2", 2);
        dueStep("if + c c * l r - r k min c 5", -7);
        dueStep("- - r l - k 1", 5);
        BackBay x = new BackBay();
        Due.begin(x, Integer.MAX_VALUE, Integer.MIN_VALUE);
        Due.read(x, "cell + c 1;");
        T.due("a sum goes round", x.cell(0, 1), Integer.MIN_VALUE);
        Due.read(x, "cell - c 1;");
        T.due("a difference goes round", x.cell(1, 1), Integer.MAX_VALUE);
        Due.read(x, "cell * c 3;");
        T.due("a product goes round", x.cell(0, 1), Integer.MAX_VALUE - 2);
        Due.read(x, "cell max l c;");
        T.due("signs count", x.cell(1, 1), Integer.MAX_VALUE);
    }
}
