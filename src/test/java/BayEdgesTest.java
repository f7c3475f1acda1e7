/** Sentences on the bay that name an edge: THE BAY in the Terms, promises 9 to 13. */
public final class BayEdgesTest {
    private static final Due T = new Due();
    private static final Twins TWINS = new Twins(T);
    private static final int MOST = Integer.MAX_VALUE;
    private static final int LEAST = Integer.MIN_VALUE;

    public static void main(String[] args) {
        atFirst();
        twoToTenCells();
        anewFromNowOn();
        bayRefused();
        startTakesAsManyItems();
        startRefused();
        startPlace();
        strips();
        stripRefused();
        edges();
        edgeRefused();
        stepsOfACell();
        cellRefused();
        firstAndLastCell();
        allCellsAtOnce();
        alike();
        withoutStencils();
        T.end();
    }

    private static void atFirst() {
        T.of("THE BAY has n CELLS (2 to 10; 4 at first), a START (0 each), STRIPS k of each CELL (.. 1 at first), "
                + "EDGES left and right (0).");
        BackBay x = new BackBay();
        T.due("cells", x.count(3), 4);
        Due.read(x, "cell + * 10 k + * 100 l * 1000 r;");
        for (int cell = 0; cell < 4; cell++) {
            T.due("start", x.cell(cell, 0), 0);
            T.due("strips and edges", x.cell(cell, 1), 10);
        }
        T.due("no cell 4", x.cell(4, 0), Due.BAD);
        T.due("the bay told", x.bay(2), 4);
    }

    private static void twoToTenCells() {
        T.of("THE BAY has n CELLS from now on (2 to 10) ..: how many it had.");
        BackBay x = new BackBay();
        long had = 4;
        for (int n = 2; n <= 10; n++) {
            T.due("bay of " + n, x.bay(n), had);
            T.due("cells", x.count(3), n);
            T.due("the last cell", x.cell(n - 1, 0), 0);
            T.due("none behind it", x.cell(n, 0), Due.BAD);
            T.due("no strips behind it", x.strip(n, 1), Due.BAD);
            T.due("no slope behind it", x.slope(0, n), Due.BAD);
            had = n;
        }
        T.due("from 10 to 10", x.bay(10), 10);
        T.due("from 10 to 2", x.bay(2), 10);
        T.due("from 2 to 10", x.bay(10), 2);
    }

    private static void anewFromNowOn() {
        T.of("bay: .. from now on, START 0, STRIPS 1");
        BackBay x = new BackBay();
        Due.begin(x, 1, 2, 3, 4, 5, 6, 7, 8, 9, 10);
        for (int cell = 0; cell < 10; cell++) {
            x.strip(cell, 9);
        }
        x.edge(0, 5);
        x.edge(1, 6);
        x.gauge(1, 0, 1, 3);
        x.keep();
        x.bay(2);
        T.due("strips of the first", x.strip(0, 7), 1);
        T.due("start of the last", x.cell(1, 0), 0);
        x.bay(10);
        for (int cell = 0; cell < 10; cell++) {
            T.due("start of " + cell, x.cell(cell, 0), 0);
            T.due("strips of " + cell, x.strip(cell, 1), 1);
        }
        T.due("the left edge stays", x.edge(0, 5), 5);
        T.due("the right edge stays", x.edge(1, 6), 6);
        T.due("the gauge stays", x.wish(0), 9);
        T.due("the stripping stays", x.lay(0), 1);
        T.due("its strips", x.strip(9, 1), 9);
    }

    private static void bayRefused() {
        T.of("bay: BAD.");
        for (int n : Due.outside(2, 10)) {
            TWINS.refused("bay of " + n, x -> x.bay(n), Due.BAD);
        }
        TWINS.refused("bay of 0", x -> x.bay(0), Due.BAD);
    }

    private static void startTakesAsManyItems() {
        T.of("START of CELLS 0, 1, .. are as many ITEMS of a ROW from i on: how many.");
        for (int n = 2; n <= 10; n++) {
            BackBay x = new BackBay();
            x.row(7, 2, 20);
            x.set(7, 0, LEAST);
            x.set(7, n - 1, MOST);
            x.set(7, n, 77);
            x.bay(n);
            T.due("start of " + n, x.start(7, 0), n);
            T.due("the first", x.cell(0, 0), LEAST);
            T.due("the last", x.cell(n - 1, 0), MOST);
            T.due("from 1 on", x.start(7, 1), n);
            T.due("the last", x.cell(n - 1, 0), 77);
        }
        BackBay y = new BackBay();
        y.row(0, 0, 4);
        y.set(0, 0, 128);
        y.row(1, 1, 4);
        y.set(1, 3, 32768);
        T.due("of bytes", y.start(0, 0), 4);
        T.due("a byte below 0", y.cell(0, 0), -128);
        T.due("of shorts", y.start(1, 0), 4);
        T.due("a short below 0", y.cell(3, 0), -32768);
        T.due("all are taken anew", y.cell(0, 0), 0);
        y.set(1, 3, 5);
        y.drop(1);
        T.due("the start is a copy", y.cell(3, 0), -32768);
    }

    private static void startRefused() {
        T.of("start: BAD: ROW; NULL");
        for (int no : Due.outside(0, 7)) {
            TWINS.refused("row " + no, x -> x.start(no, 0), Due.BAD);
        }
        for (int row = 4; row <= 7; row++) {
            int r = row;
            TWINS.refused(Twins.Made.FILLED, "row " + r, x -> x.start(r, 0), Due.NULL);
        }
    }

    private static void startPlace() {
        T.of("start: PLACE");
        BackBay x = Twins.Made.FILLED.make();
        T.due("5 of 5 items", x.start(0, 0), 5);
        T.due("5 from the last place", x.start(1, 15), 5);
        for (int no : Due.outside(0, 0)) {
            TWINS.refused(Twins.Made.FILLED, "5 items from " + no, y -> y.start(0, no), Due.PLACE);
        }
        for (int no : Due.outside(0, 15)) {
            TWINS.refused(Twins.Made.FULL, "20 items from " + no, y -> y.start(1, no), Due.PLACE);
        }
        TWINS.refused(Twins.Made.FILLED, "no items", y -> y.start(3, 0), Due.PLACE);
        TWINS.refused(Twins.Made.FILLED, "from the end", y -> y.start(0, 5), Due.PLACE);
        BackBay one = new BackBay();
        one.bay(10);
        one.row(0, 2, 9);
        T.due("one item too few", one.start(0, 0), Due.PLACE);
        one.row(0, 2, 10);
        T.due("just as many", one.start(0, 0), 10);
    }

    private static void strips() {
        T.of("STRIPS k of each CELL (0 to 9; 1 at first); STRIPS of a CELL: what they were.");
        BackBay x = new BackBay();
        x.bay(10);
        Due.read(x, "cell k;");
        int was = 1;
        for (int v = 0; v <= 9; v++) {
            for (int cell = 0; cell < 10; cell++) {
                T.due("strips of " + cell, x.strip(cell, v), was);
            }
            T.due("k of the first", x.cell(0, 1), v);
            T.due("k of the last", x.cell(9, 1), v);
            was = v;
        }
        x.strip(4, 0);
        T.due("of that cell alone", x.cell(4, 1), 0);
        T.due("not of the one ahead", x.cell(3, 1), 9);
        T.due("not of the one behind", x.cell(5, 1), 9);
    }

    private static void stripRefused() {
        T.of("strip: BAD: CELL, v (0 to 9).");
        for (int cell : Due.outside(0, 4)) {
            TWINS.refused(Twins.Made.FILLED, "cell " + cell, x -> x.strip(cell, 3), Due.BAD);
        }
        for (int cell : Due.outside(0, 3)) {
            TWINS.refused(Twins.Made.NEW, "cell " + cell, x -> x.strip(cell, 3), Due.BAD);
        }
        for (int v : Due.outside(0, 9)) {
            TWINS.refused(v + " strips", x -> x.strip(0, v), Due.BAD);
        }
    }

    private static void edges() {
        T.of("An EDGE (0 left, 1 right): what it was.");
        int[] some = {0, 1, -1, MOST, LEAST, 0};
        BackBay x = new BackBay();
        for (int i = 1; i < some.length; i++) {
            T.due("left", x.edge(0, some[i]), some[i - 1]);
            T.due("right", x.edge(1, -some[i]), -some[i - 1]);
        }
    }

    private static void edgeRefused() {
        T.of("edge: BAD.");
        for (int side : Due.outside(0, 1)) {
            TWINS.refused("side " + side, x -> x.edge(side, 3), Due.BAD);
        }
    }

    private static void stepsOfACell() {
        T.of("A CELL behind so many STEPS (0 to 40).");
        BackBay x = new BackBay();
        Due.begin(x, 3, 0, 0, 0, 0, 0, 0, 0, 0, 4);
        Due.read(x, "cell + c 1;cell + c 10;cell + c 100;");
        for (int steps = 0; steps <= 40; steps++) {
            T.due("the first behind " + steps, x.cell(0, steps), 3 + 111 * steps);
            T.due("the last behind " + steps, x.cell(9, steps), 4 + 111 * steps);
        }
        T.due("behind none once more", x.cell(0, 0), 3);
    }

    private static void cellRefused() {
        T.of("cell: BAD.");
        for (int cell : Due.outside(0, 4)) {
            TWINS.refused(Twins.Made.FULL, "cell " + cell, x -> x.cell(cell, 1), Due.BAD);
        }
        for (int cell : Due.outside(0, 3)) {
            TWINS.refused(Twins.Made.NEW, "cell " + cell, x -> x.cell(cell, 1), Due.BAD);
        }
        for (int steps : Due.outside(0, 40)) {
            TWINS.refused(steps + " steps", x -> x.cell(0, steps), Due.BAD);
        }
    }

    private static void firstAndLastCell() {
        T.of("l is the CELL to the left (of the first one the left EDGE), .. "
                + "r that to the right (of the last one the right EDGE)");
        for (int n = 2; n <= 10; n++) {
            int[] start = new int[n];
            for (int i = 0; i < n; i++) {
                start[i] = i + 1;
            }
            BackBay x = new BackBay();
            Due.begin(x, start);
            x.edge(0, 50);
            x.edge(1, 60);
            Due.read(x, "cell + * 1000 l r;");
            for (int cell = 0; cell < n; cell++) {
                int left = cell == 0 ? 50 : cell;
                int right = cell == n - 1 ? 60 : cell + 2;
                T.due("cell " + cell + " of " + n, x.cell(cell, 1), 1000 * left + right);
            }
        }
    }

    private static void allCellsAtOnce() {
        T.of("STENCIL by STENCIL all CELLS at once become what it says of the CELLS as they were ahead of it");
        BackBay x = new BackBay();
        Due.begin(x, 1, 2, 3);
        x.edge(0, 9);
        x.edge(1, 8);
        Due.read(x, "cell l;");
        T.due("to the right", x.cell(1, 1), 1);
        T.due("to the right", x.cell(2, 1), 2);
        Due.read(x, "cell r;");
        T.due("to the left", x.cell(0, 1), 2);
        T.due("to the left", x.cell(1, 1), 3);
        Due.read(x, "cell l;cell r;");
        T.due("there and back", x.cell(0, 1), 1);
        T.due("there and back", x.cell(1, 1), 2);
        T.due("the edge comes in", x.cell(2, 1), 8);
        Due.read(x, "cell r;cell l;");
        T.due("the edge comes in", x.cell(0, 1), 9);
        T.due("back and there", x.cell(1, 1), 2);
    }

    private static void dueAlike(String node, int byFirst, int bySecond) {
        BackBay x = new BackBay();
        Due.begin(x, 1, 5);
        Due.read(x, "cell " + node + ";");
        x.gauge(0, 1, 1, -4);
        T.due(node + " by c", x.slope(1, 0), byFirst);
        T.due(node + " by k", x.slope(0, 0), bySecond);
    }

    private static void alike() {
        T.of("min the lesser, max the greater (alike: the first); if a b x y: x if a is above b, else y");
        // c and k are 1 both: which of them was taken is told by the slopes, 2 * (1 + 4).
        dueAlike("min c k", 10, 0);
        dueAlike("min k c", 0, 10);
        dueAlike("max c k", 10, 0);
        dueAlike("max k c", 0, 10);
        dueAlike("if c k c k", 0, 10);
        dueAlike("if c k k c", 10, 0);
        dueAlike("if c 0 c k", 10, 0);
        dueAlike("if c 2 c k", 0, 10);
    }

    private static void withoutStencils() {
        T.of("Without STENCILS a STEP changes nothing.");
        BackBay x = new BackBay();
        Due.begin(x, 5, LEAST, MOST);
        x.edge(0, 9);
        for (int steps = 0; steps <= 40; steps += 20) {
            T.due("the first behind " + steps, x.cell(0, steps), 5);
            T.due("the second behind " + steps, x.cell(1, steps), LEAST);
            T.due("the last behind " + steps, x.cell(2, steps), MOST);
        }
        x.gauge(0, 20, 1, 2);
        T.due("a wish", x.wish(0), 9);
        T.due("no knots", x.wish(2), 0);
        T.due("a slope by its start", x.slope(1, 0), 6);
        T.due("none by another start", x.slope(1, 1), 0);
        T.due("none by its strips", x.slope(0, 0), 0);
        T.due("none by an edge", x.slope(2, 0), 0);
        T.due("nothing to move", x.move(), Due.NONE);
        T.due("at rest", x.rest(), 1);
    }
}
