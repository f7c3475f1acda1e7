/** Sentences on wishes and slopes that name an edge: part 2 of the Terms, promises 14 to 19. */
public final class WishEdgesTest {
    private static final Due T = new Due();
    private static final Twins TWINS = new Twins(T);
    private static final int MOST = Integer.MAX_VALUE;
    private static final int LEAST = Integer.MIN_VALUE;

    public static void main(String[] args) {
        gaugesOfAllCellsAndSteps();
        weights();
        twelveGauges();
        gaugeRefused();
        gaugeFull();
        outAndNot();
        outRefused();
        allOut();
        cellThere();
        behindSoManySteps();
        last();
        lastOfNone();
        wishRefused();
        knotsTillLast();
        knotsMost();
        knotsWhereWorkedOut();
        slopeOfSides();
        slopeOfAnIfsConditions();
        slopeOverAllWays();
        slopeOverStepsAndStencils();
        slopesOfAShorterBay();
        slopeOfEdges();
        slopeRefused();
        pushWhateverItsBounds();
        pushRefused();
        fewestOfOneAndNoPlace();
        fewestAndWhere();
        whereNone();
        againRefused();
        onlyTold();
        T.end();
    }

    private static void gaugesOfAllCellsAndSteps() {
        T.of("A GAUGE ..: a CELL, a STEP 0 to 20 (behind so many STEPS)");
        for (int cell = 0; cell <= 9; cell++) {
            for (int step = 0; step <= 20; step += 20) {
                BackBay x = new BackBay();
                T.due("of cell " + cell + " behind " + step, x.gauge(cell, step, 1, 5), 1);
                T.due("gauges", x.count(4), 1);
                boolean there = cell < 4;
                T.due("its wish", x.wish(0), there ? 25 : 0);
                T.due("last", x.wish(1), there ? step : 0);
            }
        }
    }

    private static void weights() {
        T.of("A GAUGE ..: a weight (-9 to 9), what is wanted");
        for (int weight = -9; weight <= 9; weight++) {
            BackBay x = new BackBay();
            T.due("of weight " + weight, x.gauge(0, 0, weight, 10), 1);
            T.due("wish", x.wish(0), 100 * weight);
            T.due("slope", x.slope(1, 0), -20 * weight);
        }
        BackBay y = new BackBay();
        T.due("the greatest wanted", y.gauge(0, 0, 1, MOST), 1);
        T.due("its wish", y.wish(0), 1);
        T.due("its slope", y.slope(1, 0), 2);
        T.due("the least wanted", y.gauge(1, 0, 1, LEAST), 2);
        T.due("its slope", y.slope(1, 1), 0);
    }

    private static void twelveGauges() {
        T.of("A GAUGE, as they are told (12 at most); A GAUGE: how many there are.");
        BackBay x = new BackBay();
        Due.begin(x, 0, 0, 0, 0, 0, 0, 0, 0, 0, 0);
        int wish = 0;
        for (int i = 0; i < 12; i++) {
            T.due("gauge " + i, x.gauge(i % 10, i, 1 + i % 9, i), i + 1);
            wish += (1 + i % 9) * i * i;
            T.due("wish of all", x.wish(0), wish);
            T.due("last", x.wish(1), i);
        }
        T.due("the 13th", x.gauge(0, 0, 0, 0), Due.FULL);
        for (int i = 0; i < 12; i++) {
            T.due("out " + i, x.out(i, 1), 1);
            wish -= (1 + i % 9) * i * i;
            T.due("wish of the others", x.wish(0), wish);
        }
        T.due("no gauge 12", x.out(12, 1), Due.BAD);
    }

    private static void gaugeRefused() {
        T.of("gauge: BAD: CELL 0 to 9, STEP, weight");
        for (int no : Due.outside(0, 9)) {
            TWINS.refused("cell " + no, x -> x.gauge(no, 0, 1, 1), Due.BAD);
        }
        for (int no : Due.outside(0, 20)) {
            TWINS.refused("step " + no, x -> x.gauge(0, no, 1, 1), Due.BAD);
        }
        for (int no : Due.outside(-9, 9)) {
            TWINS.refused("weight " + no, x -> x.gauge(0, 0, no, 1), Due.BAD);
        }
    }

    private static void gaugeFull() {
        T.of("gauge: FULL: 12.");
        TWINS.refused(Twins.Made.FULL, "the 13th", x -> x.gauge(0, 0, 1, 1), Due.FULL);
        TWINS.refused(Twins.Made.FULL, "the 13th, of a cell that is not there", x -> x.gauge(9, 20, -9, 1), Due.FULL);
        BackBay x = Twins.Made.FULL.make();
        for (int i = 0; i < 12; i++) {
            x.out(i, 1);
        }
        T.due("those that are out have their places still", x.gauge(0, 0, 1, 1), Due.FULL);
        BackBay y = new BackBay();
        for (int i = 0; i < 11; i++) {
            y.gauge(0, 0, 1, 1);
        }
        T.due("the 12th", y.gauge(0, 0, 1, 1), 12);
        T.due("the 13th", y.gauge(0, 0, 1, 1), Due.FULL);
    }

    private static void outAndNot() {
        T.of("A GAUGE is OUT (1), or not (0): 1.");
        BackBay x = new BackBay();
        x.gauge(0, 0, 1, 2);
        x.gauge(0, 0, 1, 3);
        T.due("none is out at first", x.count(5), 0);
        T.due("not out, which it was not", x.out(0, 0), 1);
        T.due("wish of both", x.wish(0), 13);
        T.due("out", x.out(1, 1), 1);
        T.due("out, which it was", x.out(1, 1), 1);
        T.due("one is out", x.count(5), 1);
        T.due("wish of one", x.wish(0), 4);
        T.due("not out", x.out(1, 0), 1);
        T.due("none is out", x.count(5), 0);
        T.due("wish of both", x.wish(0), 13);
    }

    private static void outRefused() {
        T.of("out: BAD.");
        for (int no : Due.outside(0, 2)) {
            TWINS.refused(Twins.Made.FILLED, "gauge " + no, x -> x.out(no, 1), Due.BAD);
        }
        for (int no : Due.outside(0, 11)) {
            TWINS.refused(Twins.Made.FULL, "gauge " + no, x -> x.out(no, 0), Due.BAD);
        }
        for (int no : Due.outside(0, -1)) {
            TWINS.refused(Twins.Made.NEW, "gauge " + no, x -> x.out(no, 0), Due.BAD);
        }
        for (int no : Due.outside(0, 1)) {
            TWINS.refused("out by " + no, x -> x.out(0, no), Due.BAD);
        }
    }

    private static void allOut() {
        T.of("THE WISH: over GAUGES that are not OUT");
        BackBay x = new BackBay();
        Due.begin(x, 1, 2, 3);
        Due.read(x, "cell min c + l k;");
        for (int i = 0; i < 12; i++) {
            x.gauge(i % 3, i, 1, 7);
            x.out(i, 1);
        }
        T.due("all are out", x.count(5), 12);
        T.due("wish", x.wish(0), 0);
        T.due("last", x.wish(1), 0);
        T.due("knots", x.wish(2), 0);
        for (int cell = 0; cell < 3; cell++) {
            T.due("slope by strips", x.slope(0, cell), 0);
            T.due("slope by start", x.slope(1, cell), 0);
            T.due("push", x.push(cell, 5), 0);
        }
        T.due("move", x.move(), Due.NONE);
        T.due("rest", x.rest(), 1);
    }

    private static void cellThere() {
        T.of("THE WISH: over GAUGES .. (and of which the CELL is there)");
        for (int n = 2; n <= 9; n++) {
            BackBay x = new BackBay();
            x.bay(n);
            x.gauge(n - 1, 1, 1, 2);
            T.due("the last cell of " + n, x.wish(0), 4);
            x.gauge(n, 5, 1, 3);
            T.due("the first that is not there", x.wish(0), 4);
            T.due("last", x.wish(1), 1);
            x.bay(n + 1);
            T.due("it is there now", x.wish(0), 13);
            T.due("last", x.wish(1), 5);
            x.bay(n);
            T.due("and gone again", x.wish(0), 4);
            T.due("last", x.wish(1), 1);
            T.due("it is not out", x.count(5), 0);
        }
    }

    private static void behindSoManySteps() {
        T.of("the weight times the square of (the CELL then less what is wanted), added");
        BackBay x = new BackBay();
        Due.begin(x, 7, 0);
        Due.read(x, "cell + c 1;");
        x.gauge(0, 0, 1, 0);
        T.due("behind none", x.wish(0), 49);
        x.out(0, 1);
        x.gauge(0, 20, -9, 0);
        T.due("behind 20", x.wish(0), -9 * 27 * 27);
        x.out(0, 0);
        T.due("both", x.wish(0), 49 - 9 * 27 * 27);
    }

    private static void last() {
        T.of("LAST: the greatest STEP of these");
        BackBay x = new BackBay();
        x.gauge(0, 7, 1, 1);
        x.gauge(1, 20, 0, 1);
        x.gauge(2, 8, 1, 1);
        T.due("the greatest, of weight 0, too", x.wish(1), 20);
        x.out(1, 1);
        T.due("the next", x.wish(1), 8);
        x.bay(2);
        T.due("the next, its cell being there", x.wish(1), 7);
        x.out(0, 1);
        T.due("none", x.wish(1), 0);
    }

    private static void lastOfNone() {
        T.of("LAST: the greatest STEP of these; 0.");
        BackBay x = new BackBay();
        T.due("without gauges", x.wish(1), 0);
        x.gauge(0, 0, 1, 1);
        T.due("of the start", x.wish(1), 0);
        x.gauge(9, 20, 1, 1);
        T.due("the cell is not there", x.wish(1), 0);
        BackBay y = new BackBay();
        y.gauge(5, 3, 1, 1);
        T.due("no gauge counts", y.wish(1), 0);
        T.due("no wish", y.wish(0), 0);
    }

    private static void wishRefused() {
        T.of("THE WISH (what = 0), LAST (1), KNOTS (2). BAD.");
        for (int what : Due.outside(0, 2)) {
            TWINS.refused("wish " + what, x -> x.wish(what), Due.BAD);
        }
    }

    private static void knotsTillLast() {
        T.of("KNOTS: how often, in STEPS 1 to LAST, in all CELLS and STENCILS");
        for (int last = 0; last <= 20; last++) {
            for (int n = 2; n <= 10; n += 8) {
                BackBay x = new BackBay();
                x.bay(n);
                Due.read(x, "cell min c c;cell max 1 1;cell if 2 2 c c;");
                x.gauge(0, last, 0, 0);
                T.due("knots of " + n + " cells till " + last, x.wish(2), 3 * n * last);
            }
        }
        BackBay y = new BackBay();
        Due.begin(y, 1, 2, 3);
        Due.read(y, "cell min c 2;");
        y.gauge(2, 1, 1, 1);
        T.due("of the cell that is alike alone", y.wish(2), 1);
        y.gauge(0, 2, 1, 1);
        T.due("in the second step two are", y.wish(2), 1 + 2);
    }

    private static void knotsMost() {
        T.of("KNOTS: how often .. (all there can be)");
        BackBay x = new BackBay();
        x.bay(10);
        String nine = "cell min min min c c max c c min max c c min c max c min c c;";
        T.due("nodes", Due.read(x, nine + nine + nine), 57);
        x.gauge(9, 20, 1, 0);
        T.due("9 of each stencil, cell and step", x.wish(2), 9 * 3 * 10 * 20);
    }

    private static void dueKnots(String node, int due) {
        BackBay x = new BackBay();
        Due.begin(x, 3, 3);
        Due.read(x, "cell " + node + ";");
        x.gauge(0, 1, 1, 0);
        T.due("knots of " + node, x.wish(2), 2 * due);
    }

    private static void knotsWhereWorkedOut() {
        T.of("(All NODES are worked out, but for an if: a, b, and of x, y the one taken.)");
        dueKnots("min c 3", 1);
        dueKnots("min c 4", 0);
        dueKnots("min 2 3", 0);
        dueKnots("max 3 c", 1);
        dueKnots("if c 3 1 2", 1);
        dueKnots("if c 2 1 2", 0);
        dueKnots("if c 4 1 2", 0);
        dueKnots("if 2 1 min 1 1 2", 1);
        dueKnots("if 2 1 2 min 1 1", 0);
        dueKnots("if 1 2 min 1 1 2", 0);
        dueKnots("if 1 2 2 min 1 1", 1);
        dueKnots("if 1 1 min 1 1 2", 1);
        dueKnots("if 1 1 2 min 1 1", 2);
        dueKnots("if min 1 1 max 2 2 1 1", 2);
        dueKnots("if 2 1 if 2 1 5 min 1 1 max 2 2", 0);
        dueKnots("if 1 2 if min 1 1 1 5 min 1 1 max 2 2", 1);
        dueKnots("min 1 min 2 2", 1);
        dueKnots("max min 2 2 3", 1);
        dueKnots("* 0 min 2 2", 1);
        dueKnots("* max 2 2 0", 1);
        dueKnots("+ min 2 2 0", 1);
        dueKnots("+ 0 max 2 2", 1);
        dueKnots("- if 2 2 0 0 0", 1);
        dueKnots("- 0 min 2 2", 1);
        dueKnots("+ - min 2 2 max 2 2 * if 2 2 0 0 0", 3);
        dueKnots("+ c c", 0);
        dueKnots("- c c", 0);
        dueKnots("* c c", 0);
    }

    private static void dueSlopes(String node, int byStart, int byStrips) {
        BackBay x = new BackBay();
        Due.begin(x, 1, 9);
        Due.read(x, "cell " + node + ";");
        // The wanted is half a slope of 2 below what the cell becomes.
        x.gauge(0, 1, 1, (int) x.cell(0, 1) - 1);
        T.due(node + " by start", x.slope(1, 0), byStart);
        T.due(node + " by strips", x.slope(0, 0), byStrips);
    }

    private static void slopeOfSides() {
        T.of("of min, max, if that of the side taken alone");
        dueSlopes("min c k", 2, 0);
        dueSlopes("min k c", 0, 2);
        dueSlopes("max c k", 2, 0);
        dueSlopes("max k c", 0, 2);
        dueSlopes("min c + k 1", 2, 0);
        dueSlopes("min + c 1 k", 0, 2);
        dueSlopes("max c + k 1", 0, 2);
        dueSlopes("max + c 1 k", 2, 0);
        dueSlopes("if 2 1 c k", 2, 0);
        dueSlopes("if 1 1 c k", 0, 2);
        dueSlopes("if 0 1 c k", 0, 2);
    }

    private static void slopeOfAnIfsConditions() {
        T.of("(a and b of an if have none)");
        dueSlopes("if c 0 5 6", 0, 0);
        dueSlopes("if c k 5 6", 0, 0);
        dueSlopes("if k c 5 6", 0, 0);
        dueSlopes("if * c 9 k k 6", 0, 2);
        dueSlopes("+ c if c k c k", 2, 2);
    }

    private static void slopeOverAllWays() {
        T.of("over all ways on which it comes into THE WISH, all added");
        dueSlopes("+ c c", 4, 0);
        dueSlopes("- c c", 0, 0);
        dueSlopes("- k + c c", -4, 2);
        dueSlopes("* c c", 4, 0);
        dueSlopes("* c k", 2, 2);
        dueSlopes("* + c 4 + k 6", 2 * 7, 2 * 5);
        dueSlopes("5", 0, 0);
        BackBay x = new BackBay();
        Due.begin(x, 1, 1);
        Due.read(x, "cell + l r;");
        x.edge(0, 1);
        x.edge(1, 1);
        for (int step = 0; step <= 2; step++) {
            x.gauge(0, step, 1, 0);
            x.gauge(1, step, 1, 0);
        }
        // Rows 1 1, 2 2, 3 3: each start comes into one cell of each row.
        T.due("by start", x.slope(1, 0), 2 + 4 + 6);
        T.due("by the other start", x.slope(1, 1), 2 + 4 + 6);
        T.due("by the left edge", x.slope(2, 0), 4 + 6 + 6);
        T.due("by the right edge", x.slope(2, 1), 4 + 6 + 6);
    }

    private static void slopeOverStepsAndStencils() {
        T.of("over all ways on which it comes into THE WISH, all added (of STEPS and STENCILS)");
        for (int last = 0; last <= 20; last++) {
            BackBay x = new BackBay();
            Due.begin(x, 5, 0);
            Due.read(x, "cell + c k;cell + c * 2 k;cell - c * 4 k;");
            x.gauge(0, last, 1, 0);
            // Each step adds k + 2 k - 4 k; k is 1.
            T.due("by strips, " + last + " steps", x.slope(0, 0), 2 * (5 - last) * -last);
            T.due("by start, " + last + " steps", x.slope(1, 0), 2 * (5 - last));
        }
        BackBay y = new BackBay();
        Due.begin(y, 1, 1, 1);
        Due.read(y, "cell + l + c r;");
        y.gauge(0, 1, 1, 1);
        y.gauge(1, 1, 1, 1);
        y.gauge(2, 1, 1, 1);
        // 2, 3, 2: off by 1, 2, 1.
        T.due("a start seen by two", y.slope(1, 0), 2 + 4);
        T.due("a start seen by three", y.slope(1, 1), 2 + 4 + 2);
        T.due("a start seen by two", y.slope(1, 2), 4 + 2);
        T.due("the left edge", y.slope(2, 0), 2);
        T.due("the right edge", y.slope(2, 1), 2);
    }

    private static void slopesOfAShorterBay() {
        T.of("The SLOPE .. of a CELL (that is there)");
        BackBay x = new BackBay();
        Due.begin(x, 1, 2, 3, 4, 5, 6, 7, 8, 9, 10);
        Due.read(x, "cell + l + c r;");
        x.gauge(1, 2, 1, 0);
        x.slope(0, 0);
        x.apart(0, 0);
        x.bay(2);
        x.edge(1, 7);
        // Rows 0 0, 0 7, 7 14: nothing of the longer bay is left.
        T.due("wish", x.wish(0), 14 * 14);
        T.due("by the first start", x.slope(1, 0), 28 * 2);
        T.due("by the last start", x.slope(1, 1), 28 * 2);
        T.due("by the left edge", x.slope(2, 0), 28);
        T.due("by the right edge", x.slope(2, 1), 28 * 2);
    }

    private static void slopeOfEdges() {
        T.of("The SLOPE by the STRIPS (what = 0), the START (1) of a CELL, by an EDGE (2; 0 left, 1 right).");
        for (int n = 2; n <= 10; n++) {
            BackBay x = new BackBay();
            x.bay(n);
            Due.read(x, "cell + + * 3 l * 5 r + * 7 c * 11 k;");
            x.gauge(0, 1, 1, 10);
            // Off by 11 - 10.
            T.due("by the left edge", x.slope(2, 0), 6);
            T.due("by the right edge", x.slope(2, 1), 0);
            T.due("by its start", x.slope(1, 0), 14);
            T.due("by its strips", x.slope(0, 0), 22);
            T.due("by the start to the right", x.slope(1, 1), 10);
            T.due("by the last strips", x.slope(0, n - 1), 0);
            x.out(0, 1);
            x.gauge(n - 1, 1, 1, 10);
            T.due("by the left edge", x.slope(2, 0), 0);
            T.due("by the right edge", x.slope(2, 1), 10);
            T.due("by the start to the left", x.slope(1, n - 2), 6);
            T.due("by the last start", x.slope(1, n - 1), 14);
            T.due("by the last strips", x.slope(0, n - 1), 22);
            T.due("by the first strips", x.slope(0, 0), 0);
        }
    }

    private static void slopeRefused() {
        T.of("slope: BAD.");
        for (int what : Due.outside(0, 2)) {
            TWINS.refused("slope " + what, x -> x.slope(what, 0), Due.BAD);
        }
        for (int what = 0; what <= 1; what++) {
            int by = what;
            for (int cell : Due.outside(0, 4)) {
                TWINS.refused(Twins.Made.FULL, "slope " + by + " of " + cell, x -> x.slope(by, cell), Due.BAD);
            }
            for (int cell : Due.outside(0, 3)) {
                TWINS.refused(Twins.Made.NEW, "slope " + by + " of " + cell, x -> x.slope(by, cell), Due.BAD);
            }
        }
        for (int side : Due.outside(0, 1)) {
            TWINS.refused("slope of edge " + side, x -> x.slope(2, side), Due.BAD);
        }
    }

    private static void pushWhateverItsBounds() {
        T.of("THE WISH with it so much more (whatever its bounds) less THE WISH");
        BackBay x = new BackBay();
        x.bay(2);
        Due.read(x, "cell k;");
        x.gauge(1, 1, 1, 0);
        x.strip(1, 9);
        T.due("one more than 9", x.push(1, 1), 100 - 81);
        T.due("nine less than 9", x.push(1, -9), -81);
        T.due("ten less than 9", x.push(1, -10), 1 - 81);
        T.due("none more", x.push(1, 0), 0);
        T.due("far more", x.push(1, 991), 1000000 - 81);
        x.strip(1, 0);
        T.due("one less than none", x.push(1, -1), 1);
        T.due("nine more than none", x.push(1, 9), 81);
        T.due("ten more than none", x.push(1, 10), 100);
        T.due("the most", x.push(1, MOST), 1);
        T.due("the least", x.push(1, LEAST), 0);
        T.due("the other cell", x.push(0, MOST), 0);
        T.due("strips stay", x.strip(1, 0), 0);
        T.due("the other's, too", x.strip(0, 0), 1);
    }

    private static void pushRefused() {
        T.of("push: BAD: CELL.");
        for (int cell : Due.outside(0, 4)) {
            TWINS.refused(Twins.Made.FULL, "push " + cell, x -> x.push(cell, 1), Due.BAD);
        }
        for (int cell : Due.outside(0, 3)) {
            TWINS.refused(Twins.Made.NEW, "push " + cell, x -> x.push(cell, 1), Due.BAD);
        }
    }

    private static void fewestOfOneAndNoPlace() {
        T.of("FEWEST of n, k: how many STEPS are done: of 1: 0; with k 0: n (n - 1) by 2");
        BackBay x = new BackBay();
        for (int k = 0; k <= 6; k++) {
            T.due("of 1 with " + k, x.again(1, k, 0), 0);
        }
        for (int n = 1; n <= 40; n++) {
            T.due("of " + n + " with 0", x.again(n, 0, 0), n * (n - 1) / 2);
        }
    }

    private static void fewestAndWhere() {
        T.of("else the least, for m 1 to n - 1, of m and FEWEST of n - m, k - 1 and FEWEST of m, k; WHERE: the least such m.");
        // Each is held against the others' answers, so the whole table hangs on the two rules above.
        for (int k = 1; k <= 6; k++) {
            BackBay x = new BackBay();
            for (int n = 2; n <= 40; n++) {
                long fewest = x.again(n, k, 0);
                long where = x.again(n, k, 1);
                long least = Long.MAX_VALUE;
                long leastAt = 0;
                BackBay y = new BackBay();
                for (int m = 1; m < n; m++) {
                    long steps = m + y.again(n - m, k - 1, 0) + y.again(m, k, 0);
                    if (steps < least) {
                        least = steps;
                        leastAt = m;
                    }
                }
                T.due("fewest of " + n + ", " + k, fewest, least);
                T.due("where of " + n + ", " + k, where, leastAt);
            }
        }
        BackBay z = new BackBay();
        T.due("of 2 with 1", z.again(2, 1, 0), 1);
        T.due("of 40 with 6", z.again(40, 6, 0), 75);
        T.due("where of 2 with 1", z.again(2, 1, 1), 1);
        T.due("where of 40 with 6", z.again(40, 6, 1), 8);
    }

    private static void whereNone() {
        T.of("WHERE (1; NONE, if n is 1 or k is 0)");
        BackBay x = new BackBay();
        for (int k = 0; k <= 6; k++) {
            T.due("where of 1 with " + k, x.again(1, k, 1), Due.NONE);
        }
        for (int n = 1; n <= 40; n++) {
            T.due("where of " + n + " with 0", x.again(n, 0, 1), Due.NONE);
        }
        T.due("where of 2 with 1", x.again(2, 1, 1), 1);
        T.due("where of 2 with 6", x.again(2, 6, 1), 1);
    }

    private static void againRefused() {
        T.of("again: BAD: n, k, what.");
        for (int n : Due.outside(1, 40)) {
            TWINS.refused(n + " steps", x -> x.again(n, 3, 0), Due.BAD);
        }
        for (int k : Due.outside(0, 6)) {
            TWINS.refused(k + " places", x -> x.again(9, k, 1), Due.BAD);
            TWINS.refused(k + " places for one step", x -> x.again(1, k, 0), Due.BAD);
        }
        for (int what : Due.outside(0, 1)) {
            TWINS.refused("what " + what, x -> x.again(9, 3, what), Due.BAD);
        }
    }

    private static void onlyTold() {
        T.of("Nothing is promised beyond the answers and state changes described above");
        for (Twins.Made made : Twins.Made.values()) {
            TWINS.onlyTells(made, "wish", x -> x.wish(0) + x.wish(1) + x.wish(2));
            TWINS.onlyTells(made, "slope", x -> x.slope(0, 0) + x.slope(1, 3) + x.slope(2, 1));
            TWINS.onlyTells(made, "push", x -> x.push(0, 8) + x.push(3, -8));
            TWINS.onlyTells(made, "again", x -> x.again(40, 6, 0) + x.again(7, 2, 1));
            TWINS.onlyTells(made, "cell", x -> x.cell(0, 40) + x.cell(3, 1));
            TWINS.onlyTells(made, "rest", x -> x.rest());
            TWINS.onlyTells(made, "apart", x -> x.apart(1, 1));
            TWINS.onlyTells(made, "kind", x -> x.kind(0));
            TWINS.onlyTells(made, "count", x -> x.count(0) + x.count(5));
            TWINS.onlyTells(made, "trace, fault, status", x -> x.trace(0) + x.fault() + x.status());
        }
    }
}
