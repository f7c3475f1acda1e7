/** Promises 14 to 19: gauges, the wish, slopes, knots, pushes and what is done again. */
public final class WishTest {
    private static final Due T = new Due();

    public static void main(String[] args) {
        gauge();
        out();
        wish();
        knots();
        slope();
        slopesOfSides();
        slopesOverSeveralWays();
        push();
        again();
        T.end();
    }

    private static void gauge() {
        BackBay x = new BackBay();
        T.due("cell -1", x.gauge(-1, 0, 0, 0), Due.BAD);
        T.due("cell 10", x.gauge(10, 0, 0, 0), Due.BAD);
        T.due("step -1", x.gauge(0, -1, 0, 0), Due.BAD);
        T.due("step 21", x.gauge(0, 21, 0, 0), Due.BAD);
        T.due("weight -10", x.gauge(0, 0, -10, 0), Due.BAD);
        T.due("weight 10", x.gauge(0, 0, 10, 0), Due.BAD);
        T.due("none came", x.count(4), 0);
        T.due("at the ends", x.gauge(9, 20, 9, Integer.MAX_VALUE), 1);
        T.due("at the other ends", x.gauge(0, 0, -9, Integer.MIN_VALUE), 2);
        for (int i = 3; i <= 12; i++) {
            T.due("gauge " + i, x.gauge(1, 1, 1, 1), i);
        }
        T.due("the 13th", x.gauge(1, 1, 1, 1), Due.FULL);
        T.due("BAD comes ahead of FULL", x.gauge(1, 1, 10, 1), Due.BAD);
        T.due("twelve", x.count(4), 12);
    }

    private static void out() {
        BackBay x = new BackBay();
        T.due("no gauge", x.out(0, 1), Due.BAD);
        x.gauge(0, 3, 1, 2);
        x.gauge(1, 2, 1, 3);
        T.due("gauge 2", x.out(2, 1), Due.BAD);
        T.due("gauge -1", x.out(-1, 1), Due.BAD);
        T.due("out 2", x.out(0, 2), Due.BAD);
        T.due("out -1", x.out(0, -1), Due.BAD);
        T.due("both count", x.wish(0), 13);
        T.due("out", x.out(0, 1), 1);
        T.due("out once more", x.out(0, 1), 1);
        T.due("how many are out", x.count(5), 1);
        T.due("how many are there", x.count(4), 2);
        T.due("one counts", x.wish(0), 9);
        T.due("last of those that count", x.wish(1), 2);
        T.due("no slope by what is out", x.slope(1, 0), 0);
        T.due("in", x.out(0, 0), 1);
        T.due("both count again", x.wish(0), 13);
        T.due("last", x.wish(1), 3);
        T.due("none is out", x.count(5), 0);
    }

    private static void wish() {
        BackBay x = new BackBay();
        T.due("what 3", x.wish(3), Due.BAD);
        T.due("what -1", x.wish(-1), Due.BAD);
        Due.begin(x, 1, 2);
        Due.read(x, "cell + c k;");
        x.gauge(0, 3, 2, 10);
        T.due("weight times the square", x.wish(0), 72);
        x.gauge(1, 0, -3, 6);
        T.due("a weight below 0, at the start", x.wish(0), 72 - 48);
        x.gauge(2, 20, 1, 1000);
        T.due("a cell that is not there", x.wish(0), 24);
        T.due("its step is not last", x.wish(1), 3);
        x.gauge(1, 9, 0, 1000);
        T.due("a weight of 0", x.wish(0), 24);
        T.due("its step is last all the same", x.wish(1), 9);
        Due.begin(x, 1, 2, 3);
        T.due("the cell is there now", x.wish(0), 24 + (3 + 20 - 1000) * (3 + 20 - 1000));
        T.due("and last", x.wish(1), 20);
        BackBay y = new BackBay();
        Due.begin(y, 65536, 46341);
        y.gauge(0, 0, 1, 0);
        T.due("a square goes round", y.wish(0), 0);
        y.gauge(1, 0, 1, 0);
        T.due("a square goes round below 0", y.wish(0), -2147479015);
        y.gauge(1, 0, 1, 0);
        T.due("a sum goes round", y.wish(0), 9266);
        y.gauge(0, 0, 1, Integer.MIN_VALUE + 65536 - 1);
        T.due("a difference goes round", y.wish(0), 9266 + (1 << 31) * 2 + 1);
    }

    private static void dueKnots(String text, int last, int due) {
        BackBay x = new BackBay();
        Due.begin(x, 3, 3);
        Due.read(x, text);
        x.gauge(0, last, 0, 0);
        T.due("knots of " + text + " till " + last, x.wish(2), due);
    }

    private static void knots() {
        dueKnots("cell min c 3;", 0, 0);
        dueKnots("cell min c 3;", 1, 2);
        dueKnots("cell min c 3;", 20, 40);
        dueKnots("cell max 3 c;", 2, 4);
        dueKnots("cell min c 4;", 2, 0);
        dueKnots("cell if c 3 l r;", 1, 2);
        dueKnots("cell if c 3 l 3;", 3, 6);
        dueKnots("cell + c c;", 3, 0);
        dueKnots("cell - c c;", 3, 0);
        dueKnots("cell * 1 1;", 3, 0);
        // The min has a knot of its own, and the max above it one more.
        dueKnots("cell max min c 3 3;", 1, 4);
        // Of an if the side that is not taken is not worked out, nor what is below it.
        dueKnots("cell if 2 1 c min c c;", 1, 0);
        dueKnots("cell if 1 2 c min c c;", 1, 2);
        dueKnots("cell if 2 1 + min c c max c c min c c;", 1, 4);
        dueKnots("cell if 1 2 if min c c 1 2 min c c max c 3;", 1, 2);
        dueKnots("cell if min 1 1 max 2 2 c c;", 1, 4);
        // Both sides of a min are worked out.
        dueKnots("cell min if 1 1 2 2 if 0 0 1 1;", 1, 4);
        dueKnots("cell min 3 c;cell max c 3;", 2, 8);
        dueKnots("cell c;cell c;", 2, 0);
        BackBay x = new BackBay();
        x.bay(10);
        Due.read(x, "cell min c c;");
        T.due("no gauge: no step counts", x.wish(2), 0);
        x.gauge(0, 7, 1, 1);
        T.due("in all cells", x.wish(2), 70);
        x.out(0, 1);
        T.due("the gauge is out", x.wish(2), 0);
    }

    private static void slope() {
        BackBay x = new BackBay();
        T.due("what 3", x.slope(3, 0), Due.BAD);
        T.due("what -1", x.slope(-1, 0), Due.BAD);
        T.due("strips of cell 4", x.slope(0, 4), Due.BAD);
        T.due("strips of cell -1", x.slope(0, -1), Due.BAD);
        T.due("start of cell 4", x.slope(1, 4), Due.BAD);
        T.due("edge 2", x.slope(2, 2), Due.BAD);
        T.due("edge -1", x.slope(2, -1), Due.BAD);
        Due.begin(x, 1, 2);
        Due.read(x, "cell + c k;");
        x.gauge(0, 3, 2, 10);
        T.due("by strips", x.slope(0, 0), 2 * 2 * -6 * 3);
        T.due("by start", x.slope(1, 0), 2 * 2 * -6);
        T.due("by the other strips", x.slope(0, 1), 0);
        T.due("by the other start", x.slope(1, 1), 0);
        Due.read(x, "cell - c k;");
        T.due("a difference turns the second about", x.slope(0, 0), 2 * 2 * (1 - 3 - 10) * -3);
        Due.read(x, "cell * c k;");
        x.strip(0, 2);
        T.due("a product by strips", x.slope(0, 0), 2 * 2 * (8 - 10) * 3 * 4);
        T.due("a product by start", x.slope(1, 0), 2 * 2 * (8 - 10) * 8);
        BackBay y = new BackBay();
        Due.begin(y, 5, 6, 7);
        y.edge(0, 9);
        y.edge(1, 4);
        Due.read(y, "cell l;");
        y.gauge(1, 2, 1, 0);
        y.gauge(2, 2, 1, 0);
        T.due("by the left edge", y.slope(2, 0), 18);
        T.due("by the right edge", y.slope(2, 1), 0);
        T.due("by what came along", y.slope(1, 0), 10);
        Due.read(y, "cell r;");
        T.due("by the right edge", y.slope(2, 1), 16);
        T.due("by the left edge", y.slope(2, 0), 0);
    }

    private static void dueSlopes(String node, int ofStart, int ofStrips) {
        BackBay x = new BackBay();
        Due.begin(x, 3, 8);
        x.strip(0, 3);
        Due.read(x, "cell " + node + ";");
        // Behind one step the cell is 3; half a unit off with weight 1 would be one slope.
        x.gauge(0, 1, 1, 2);
        T.due(node + " by start", x.slope(1, 0), ofStart);
        T.due(node + " by strips", x.slope(0, 0), ofStrips);
    }

    private static void slopesOfSides() {
        dueSlopes("min c k", 2, 0);
        dueSlopes("min k c", 0, 2);
        dueSlopes("max c k", 2, 0);
        dueSlopes("max k c", 0, 2);
        dueSlopes("min c r", 2, 0);
        dueSlopes("min r k", 0, 2);
        dueSlopes("max l c", 2, 0);
        dueSlopes("max k 2", 0, 2);
        dueSlopes("if c k l k", 0, 2);
        dueSlopes("if r c c k", 2, 0);
        dueSlopes("if c r c k", 0, 2);
        dueSlopes("if c k 9 3", 0, 0);
        dueSlopes("if * c k 1 3 5", 0, 0);
        dueSlopes("3", 0, 0);
    }

    private static void slopesOverSeveralWays() {
        BackBay x = new BackBay();
        Due.begin(x, 2, 3);
        Due.read(x, "cell * c c;");
        x.gauge(0, 2, 1, 15);
        T.due("c to the fourth", x.slope(1, 0), 2 * (16 - 15) * 4 * 8);
        x.gauge(0, 1, 1, 1);
        T.due("two gauges", x.slope(1, 0), 64 + 2 * (4 - 1) * 4);
        x.gauge(0, 0, 3, 1);
        T.due("one of the start itself", x.slope(1, 0), 64 + 24 + 2 * 3 * (2 - 1));
        Due.read(x, "cell + l r;cell + c k;");
        x.out(1, 1);
        x.out(2, 1);
        // Behind step 1: 3 + 1, 2 + 1; behind step 2: 3 + 1, 4 + 1. The gauge is 4 - 15 off.
        T.due("wish", x.wish(0), 121);
        T.due("a start comes back by its neighbour", x.slope(1, 0), -22);
        T.due("the other start", x.slope(1, 1), 0);
        T.due("strips of the cell", x.slope(0, 0), -22);
        T.due("strips of its neighbour, one step sooner", x.slope(0, 1), -22);
        T.due("the left edge", x.slope(2, 0), -22);
        T.due("the right edge", x.slope(2, 1), -22);
        BackBay y = new BackBay();
        Due.begin(y, 1 << 16, 0);
        Due.read(y, "cell * c k;");
        y.gauge(0, 1, 1, 0);
        T.due("slopes go round", y.slope(0, 0), 0);
        y.gauge(0, 1, 1, 1);
        T.due("slopes go round", y.slope(0, 0), -131072);
    }

    private static void push() {
        BackBay x = new BackBay();
        Due.begin(x, 1, 2);
        Due.read(x, "cell + c k;");
        x.gauge(0, 3, 2, 10);
        T.due("one more", x.push(0, 1), 18 - 72);
        T.due("none more", x.push(0, 0), 0);
        T.due("another cell", x.push(1, 5), 0);
        T.due("beyond the bounds", x.push(0, -100), 2 * 306 * 306 - 72);
        T.due("beyond the bounds", x.push(0, 100), 2 * 294 * 294 - 72);
        T.due("cell 2", x.push(2, 0), Due.BAD);
        T.due("cell -1", x.push(-1, 0), Due.BAD);
        T.due("strips stay", x.strip(0, 1), 1);
        T.due("the wish stays", x.wish(0), 72);
        Due.read(x, "cell k;");
        int most = Integer.MIN_VALUE;
        T.due("goes round", x.push(0, Integer.MAX_VALUE), 2 * (most - 10) * (most - 10) - 2 * 81);
        BackBay y = new BackBay();
        Due.begin(y, 46340, 0);
        Due.read(y, "cell * c k;");
        y.gauge(0, 1, -1, 0);
        y.strip(0, 0);
        y.gauge(1, 0, 2, 32767);
        T.due("the wish", y.wish(0), 2147352578);
        T.due("a difference below 0", y.push(0, 1), -2147395600);
        y.strip(0, 1);
        y.out(1, 1);
        T.due("a difference above 0", y.push(0, -1), 2147395600);
        T.due("a difference that goes round", y.push(0, 1), -2147395600 * 3);
    }

    private static long fewest(int n, int k) {
        if (n == 1) {
            return 0;
        }
        if (k == 0) {
            return n * (n - 1) / 2;
        }
        long least = Long.MAX_VALUE;
        for (int m = 1; m < n; m++) {
            least = Math.min(least, m + fewest(n - m, k - 1) + fewest(m, k));
        }
        return least;
    }

    private static void again() {
        BackBay x = new BackBay();
        T.due("n 0", x.again(0, 0, 0), Due.BAD);
        T.due("n 41", x.again(41, 0, 0), Due.BAD);
        T.due("k -1", x.again(1, -1, 0), Due.BAD);
        T.due("k 7", x.again(1, 7, 0), Due.BAD);
        T.due("what -1", x.again(1, 0, -1), Due.BAD);
        T.due("what 2", x.again(1, 0, 2), Due.BAD);
        for (int k = 0; k <= 6; k++) {
            T.due("one step", x.again(1, k, 0), 0);
            T.due("where of one step", x.again(1, k, 1), Due.NONE);
            for (int n = 1; n <= 11; n++) {
                T.due("fewest of " + n + ", " + k, x.again(n, k, 0), fewest(n, k));
                T.due("where of " + n + ", " + k, x.again(n, k, 1), where(n, k));
            }
        }
        T.due("forty, no place", x.again(40, 0, 0), 780);
        T.due("where of forty, no place", x.again(40, 0, 1), Due.NONE);
        T.due("forty, six places", x.again(40, 6, 0), 75);
        T.due("where of forty, six places", x.again(40, 6, 1), 8);
    }

    private static long where(int n, int k) {
        if (n == 1 || k == 0) {
            return Due.NONE;
        }
        for (int m = 1; m < n; m++) {
            if (m + fewest(n - m, k - 1) + fewest(m, k) == fewest(n, k)) {
                return m;
            }
        }
        throw new IllegalStateException("no least m");
    }
}
