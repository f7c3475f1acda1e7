/** Sentences on strips that name an edge: part 3 of the Terms, promises 20 to 24. */
public final class StripsEdgesTest {
    private static final Due T = new Due();
    private static final Twins TWINS = new Twins(T);
    private static final int MOST = Integer.MAX_VALUE;
    private static final int LEAST = Integer.MIN_VALUE;

    public static void main(String[] args) {
        slopeThatIsNotNought();
        byFallingSize();
        leastNumberIsTheGreatest();
        ofSeveralByNumbers();
        oneLessOrOneMore();
        neverAgainstTheSlope();
        withinNoughtToNine();
        theFirstThatIsLess();
        lessNotAlike();
        moveOfNone();
        restOneMore();
        restOneLess();
        restWithinBounds();
        restWithoutSlope();
        sixStrippings();
        keepFull();
        layRefused();
        layState();
        layStripsAsTheyWere();
        apartFirstOfTheMost();
        apartAsWholeNumbers();
        apartNone();
        apartTillLast();
        apartOfCellsThere();
        apartRefused();
        apartState();
        T.end();
    }

    /** A bay of cells that become their strips; a gauge of each cell, if its weight is not 0. */
    private static BackBay strips(int[] strips, int[] weights, int[] wanted) {
        BackBay x = new BackBay();
        x.bay(strips.length);
        Due.read(x, "cell k;");
        for (int cell = 0; cell < strips.length; cell++) {
            x.strip(cell, strips[cell]);
            if (weights[cell] != 0) {
                x.gauge(cell, 1, weights[cell], wanted[cell]);
            }
        }
        return x;
    }

    private static int[] ints(int... those) {
        return those;
    }

    private static void dueStrips(BackBay x, int... strips) {
        for (int cell = 0; cell < strips.length; cell++) {
            T.due("strips of " + cell, x.strip(cell, strips[cell]), strips[cell]);
        }
    }

    private static void slopeThatIsNotNought() {
        T.of("A MOVE: of STRIPS with a SLOPE that is not 0");
        BackBay x = new BackBay();
        x.bay(2);
        Due.read(x, "cell * k k;");
        x.strip(0, 0);
        x.gauge(0, 1, 1, 1);
        T.due("no slope", x.slope(0, 0), 0);
        T.due("one more would help", x.push(0, 1), -1);
        T.due("none is moved", x.move(), Due.NONE);
        dueStrips(x, 0, 1);
    }

    private static void byFallingSize() {
        T.of("A MOVE: .. (its size: without its sign ..) by falling size");
        BackBay x = strips(ints(3, 3, 3, 3), ints(1, 1, 1, 1), ints(4, 6, 0, 5));
        // Slopes -2, -6, 6, -4.
        T.due("the greatest, the lesser number", x.move(), 1);
        T.due("the next, above 0", x.move(), 2);
        dueStrips(x, 3, 4, 2, 3);
        // Slopes -2, -4, 4, -4.
        T.due("then", x.move(), 1);
        T.due("then", x.move(), 2);
        T.due("then", x.move(), 3);
        dueStrips(x, 3, 5, 1, 4);
        // Slopes -2, -2, 2, -2.
        T.due("then", x.move(), 0);
        T.due("then", x.move(), 1);
        T.due("then", x.move(), 2);
        T.due("then", x.move(), 3);
        dueStrips(x, 4, 6, 0, 5);
        T.due("then none", x.move(), Due.NONE);
    }

    private static void leastNumberIsTheGreatest() {
        T.of("the least number of 32 bits is the greatest");
        for (int cell = 0; cell < 2; cell++) {
            int other = 1 - cell;
            BackBay x = new BackBay();
            Due.begin(x, 32768, 32768);
            Due.read(x, "cell * c k;");
            x.gauge(cell, 1, 1, 0);
            x.gauge(other, 1, 1, 1);
            T.due("the least", x.slope(0, cell), LEAST);
            T.due("a great one above 0", x.slope(0, other), 2147418112);
            T.due("the least is the greatest", x.move(), cell);
            T.due("it is not above 0: one more", x.strip(cell, 1), 2);
        }
        BackBay y = new BackBay();
        Due.begin(y, 32768, 32768);
        Due.read(y, "cell * c k;");
        y.gauge(0, 1, 1, 65535);
        y.gauge(1, 1, 1, 0);
        T.due("a great one below 0", y.slope(0, 0), -2147418112);
        T.due("the least", y.slope(0, 1), LEAST);
        T.due("the least is the greatest", y.move(), 1);
    }

    private static void ofSeveralByNumbers() {
        T.of("A MOVE: .. of several by numbers");
        BackBay x = new BackBay();
        x.bay(10);
        Due.read(x, "cell k;");
        for (int cell = 9; cell >= 0; cell--) {
            x.gauge(cell, 1, 1, cell % 2 == 0 ? 2 : 0);
        }
        for (int cell = 0; cell < 10; cell++) {
            T.due("of those left", x.move(), cell);
        }
        T.due("none is left", x.move(), Due.NONE);
        dueStrips(x, 2, 0, 2, 0, 2, 0, 2, 0, 2, 0);
    }

    private static void oneLessOrOneMore() {
        T.of("one less, if the SLOPE is above 0, else one more");
        BackBay more = strips(ints(3, 1), ints(1, 0), ints(8, 0));
        T.due("a slope below 0", more.slope(0, 0), -10);
        T.due("moved", more.move(), 0);
        dueStrips(more, 4, 1);
        BackBay less = strips(ints(3, 1), ints(1, 0), ints(0, 0));
        T.due("a slope above 0", less.slope(0, 0), 6);
        T.due("moved", less.move(), 0);
        dueStrips(less, 2, 1);
        BackBay turned = strips(ints(3, 1), ints(-1, 0), ints(0, 0));
        T.due("a slope below 0 by its weight", turned.slope(0, 0), -6);
        T.due("moved", turned.move(), 0);
        dueStrips(turned, 4, 1);
    }

    /** One cell of four strips has a slope, down which THE WISH is more, against which it is none. */
    private static BackBay against(String node, int slope) {
        BackBay x = new BackBay();
        x.bay(4);
        Due.read(x, "cell " + node + ";");
        for (int cell = 0; cell < 4; cell++) {
            x.strip(cell, 4);
        }
        x.gauge(2, 1, 1, 0);
        T.due("the slope", x.slope(0, 2), slope);
        return x;
    }

    private static void neverAgainstTheSlope() {
        T.of("one less, if the SLOPE is above 0, else one more (and not the other way about)");
        BackBay less = against("if k 3 if k 4 9 - 9 k 0", -10);
        T.due("one more is of no help", less.push(2, 1), 81 - 25);
        T.due("one less would be", less.push(2, -1), -25);
        T.due("none is moved", less.move(), Due.NONE);
        dueStrips(less, 4, 4, 4, 4);
        T.due("it is not at rest", less.rest(), 0);
        BackBay more = against("if k 4 0 if k 3 + 1 k 9", 10);
        T.due("one less is of no help", more.push(2, -1), 81 - 25);
        T.due("one more would be", more.push(2, 1), -25);
        T.due("none is moved", more.move(), Due.NONE);
        dueStrips(more, 4, 4, 4, 4);
        T.due("it is not at rest", more.rest(), 0);
    }

    private static void withinNoughtToNine() {
        T.of("A MOVE: .. within 0 to 9");
        BackBay up = strips(ints(8, 1), ints(1, 0), ints(50, 0));
        T.due("to nine", up.move(), 0);
        dueStrips(up, 9, 1);
        T.due("no more than nine", up.move(), Due.NONE);
        dueStrips(up, 9, 1);
        BackBay down = strips(ints(1, 1), ints(1, 0), ints(-50, 0));
        T.due("to none", down.move(), 0);
        dueStrips(down, 0, 1);
        T.due("no less than none", down.move(), Due.NONE);
        dueStrips(down, 0, 1);
        BackBay next = strips(ints(9, 0, 1), ints(9, 9, 1), ints(50, -50, 3));
        T.due("the first within", next.move(), 2);
        dueStrips(next, 9, 0, 2);
    }

    private static void theFirstThatIsLess() {
        T.of("the first of which THE WISH is less then is moved so");
        BackBay x = new BackBay();
        x.bay(3);
        Due.read(x, "cell * k k;");
        x.strip(0, 2);
        x.strip(1, 3);
        x.gauge(0, 1, 9, 5);
        x.gauge(1, 1, 2, 8);
        x.gauge(2, 1, 1, 4);
        // Slopes -72 (4 to 9 for 5), 24 (9 to 4 for 8), -12 (1 to 4 for 4): the third alone helps.
        T.due("slope", x.slope(0, 0), -72);
        T.due("slope", x.slope(0, 1), 24);
        T.due("slope", x.slope(0, 2), -12);
        T.due("the third", x.move(), 2);
        dueStrips(x, 2, 3, 2);
        T.due("then none", x.move(), Due.NONE);
        dueStrips(x, 2, 3, 2);
        T.due("and that is rest", x.rest(), 1);
    }

    private static void lessNotAlike() {
        T.of("the first of which THE WISH is less");
        BackBay x = new BackBay();
        x.bay(2);
        Due.read(x, "cell * 2 k;");
        x.gauge(0, 1, 1, 3);
        T.due("one more makes it alike", x.push(0, 1), 0);
        T.due("none is moved", x.move(), Due.NONE);
        T.due("it is at rest", x.rest(), 1);
        x.strip(0, 2);
        T.due("one less makes it alike", x.push(0, -1), 0);
        T.due("none is moved", x.move(), Due.NONE);
        T.due("it is at rest", x.rest(), 1);
    }

    private static void moveOfNone() {
        T.of("A MOVE: the CELL of which STRIPS were moved; NONE: there is none.");
        T.due("a new object", new BackBay().move(), -1000000);
        BackBay x = strips(ints(5, 5), ints(1, 1), ints(5, 5));
        T.due("all as wanted", x.move(), -1000000);
        BackBay y = new BackBay();
        y.bay(10);
        Due.read(y, "cell k;");
        y.gauge(9, 1, 1, 2);
        T.due("the last cell", y.move(), 9);
        T.due("no more", y.move(), -1000000);
    }

    private static void restOneMore() {
        T.of("AT REST: no STRIP one more .. makes THE WISH less");
        for (int cell = 0; cell < 10; cell += 9) {
            BackBay x = new BackBay();
            x.bay(10);
            Due.read(x, "cell k;");
            x.gauge(cell, 1, 1, 2);
            T.due("one more of " + cell + " helps", x.rest(), 0);
            x.strip(cell, 2);
            T.due("it is as wanted", x.rest(), 1);
        }
    }

    private static void restOneLess() {
        T.of("AT REST: no STRIP .. one less .. makes THE WISH less");
        for (int cell = 0; cell < 10; cell += 9) {
            BackBay x = new BackBay();
            x.bay(10);
            Due.read(x, "cell k;");
            x.gauge(cell, 1, 1, 0);
            T.due("one less of " + cell + " helps", x.rest(), 0);
            x.strip(cell, 0);
            T.due("it is as wanted", x.rest(), 1);
        }
    }

    private static void restWithinBounds() {
        T.of("AT REST: .. within 0 to 9");
        T.due("more than nine would help", strips(ints(9, 1), ints(1, 0), ints(50, 0)).rest(), 1);
        T.due("nine would help", strips(ints(8, 1), ints(1, 0), ints(50, 0)).rest(), 0);
        T.due("less than none would help", strips(ints(0, 1), ints(1, 0), ints(-50, 0)).rest(), 1);
        T.due("none would help", strips(ints(1, 1), ints(1, 0), ints(-50, 0)).rest(), 0);
        T.due("one less than nine helps", strips(ints(9, 1), ints(1, 0), ints(8, 0)).rest(), 0);
        T.due("one more than none helps", strips(ints(0, 1), ints(1, 0), ints(1, 0)).rest(), 0);
    }

    private static void restWithoutSlope() {
        T.of("AT REST: 1, 0.");
        BackBay x = new BackBay();
        T.due("a new object", x.rest(), 1);
        x.bay(2);
        Due.read(x, "cell * k k;");
        x.strip(1, 0);
        x.gauge(1, 1, 1, 1);
        T.due("no slope", x.slope(0, 1), 0);
        T.due("one more helps all the same", x.rest(), 0);
        T.due("strips stay", x.strip(1, 0), 0);
        BackBay y = new BackBay();
        y.bay(2);
        Due.read(y, "cell - 4 * - k 4 - k 4;");
        y.gauge(0, 1, 1, 0);
        y.strip(0, 5);
        T.due("one more makes 0 of 3, one less 4", y.rest(), 0);
        y.strip(0, 3);
        T.due("one less makes 0 of 3, one more 4", y.rest(), 0);
        y.strip(0, 6);
        T.due("it is 0", y.rest(), 1);
    }

    private static void sixStrippings() {
        T.of("STRIPPINGS, kept 0 to 5 (6 at most); A STRIPPING is kept: its number.");
        BackBay x = new BackBay();
        x.bay(2);
        for (int i = 0; i <= 5; i++) {
            x.strip(0, i);
            T.due("keep", x.keep(), i);
            T.due("strippings", x.count(6), i + 1);
            T.due("the last", x.lay(i), 1);
            T.due("none behind it", x.lay(i + 1), Due.BAD);
        }
        T.due("the seventh", x.keep(), Due.FULL);
        for (int i = 5; i >= 0; i--) {
            T.due("lay", x.lay(i), 1);
            dueStrips(x, i, 1);
        }
        T.due("laying frees no place", x.keep(), Due.FULL);
    }

    private static void keepFull() {
        T.of("keep: FULL: 6.");
        TWINS.refused(Twins.Made.FULL, "the seventh", x -> x.keep(), Due.FULL);
        BackBay x = Twins.Made.FULL.make();
        x.bay(7);
        T.due("of another number of cells, too", x.keep(), Due.FULL);
    }

    private static void layRefused() {
        T.of("lay: BAD");
        for (int no : Due.outside(0, -1)) {
            TWINS.refused(Twins.Made.NEW, "lay " + no, x -> x.lay(no), Due.BAD);
        }
        for (int no : Due.outside(0, 1)) {
            TWINS.refused(Twins.Made.FILLED, "lay " + no, x -> x.lay(no), Due.BAD);
        }
        for (int no : Due.outside(0, 5)) {
            TWINS.refused(Twins.Made.FULL, "lay " + no, x -> x.lay(no), Due.BAD);
        }
    }

    private static void layState() {
        T.of("lay: STATE: THE BAY had another number of CELLS then.");
        TWINS.refused(Twins.Made.FILLED, "of fewer", x -> x.lay(0), Due.STATE);
        BackBay x = new BackBay();
        x.bay(5);
        x.strip(4, 7);
        x.keep();
        for (int n = 2; n <= 10; n++) {
            x.bay(n);
            T.due("of 5 cells for " + n, x.lay(0), n == 5 ? 1 : Due.STATE);
            T.due("its strips", n < 5 ? 1 : x.strip(4, 1), n == 5 ? 7 : 1);
        }
    }

    private static void layStripsAsTheyWere() {
        T.of("STRIPPINGS ..: STRIPS as they were; STRIPS become a STRIPPING: 1.");
        BackBay x = new BackBay();
        x.bay(10);
        for (int cell = 0; cell < 10; cell++) {
            x.strip(cell, 9 - cell);
        }
        x.keep();
        for (int cell = 0; cell < 10; cell++) {
            x.strip(cell, 3);
        }
        x.keep();
        T.due("lay", x.lay(0), 1);
        dueStrips(x, 9, 8, 7, 6, 5, 4, 3, 2, 1, 0);
        x.strip(0, 1);
        T.due("what was kept stays as it was", x.lay(0), 1);
        dueStrips(x, 9, 8, 7, 6, 5, 4, 3, 2, 1, 0);
        T.due("the other", x.lay(1), 1);
        dueStrips(x, 3, 3, 3, 3, 3, 3, 3, 3, 3, 3);
    }

    /** Two strippings of a bay: all strips 1, and those given. */
    private static BackBay two(String node, int last, int... strips) {
        BackBay x = new BackBay();
        x.bay(strips.length);
        Due.read(x, "cell " + node + ";");
        x.gauge(0, last, 1, 0);
        x.keep();
        for (int cell = 0; cell < strips.length; cell++) {
            x.strip(cell, strips[cell]);
        }
        x.keep();
        return x;
    }

    private static void dueApart(String what, BackBay x, int due) {
        T.due(what, x.apart(0, 1), due);
        T.due(what + ", the other way about", x.apart(1, 0), due);
    }

    private static void apartFirstOfTheMost() {
        T.of("of STEPS 0 to LAST, then CELLS, the first at which that is most: 16 times the STEP and the CELL");
        dueApart("of alike cells the first", two("k", 1, 1, 3, 3), 16 + 1);
        dueApart("of alike steps the first", two("k", 5, 1, 3, 3), 16 + 1);
        dueApart("more in a later cell", two("k", 1, 2, 1, 3), 16 + 2);
        dueApart("more in a later step", two("+ c k", 3, 1, 2), 16 * 3 + 1);
        dueApart("of a step all cells, then the next step", two("+ c k", 2, 3, 3), 16 * 2);
        dueApart("the most there can be", two("+ c k", 20, 1, 1, 1, 1, 1, 1, 1, 1, 1, 2), 16 * 20 + 9);
        dueApart("less strips", two("k", 1, 1, 0), 16 + 1);
        dueApart("more strips, but less far than less", two("* - k 3 - k 3", 1, 5, 3), 16 + 1);
    }

    private static void apartAsWholeNumbers() {
        T.of("APART of two: how far, as whole numbers, a CELL behind a STEP is from itself by the other's STRIPS");
        // The least and the greatest number are 2^32 - 1 apart, 1 as numbers of 32 bits.
        BackBay x = new BackBay();
        Due.begin(x, LEAST, 0, 0);
        x.edge(0, MOST);
        Due.read(x, "cell if k 1 l if c 0 * 5 k if 0 c c * 5 k;");
        x.gauge(0, 1, 1, 0);
        x.keep();
        x.strip(0, 2);
        x.strip(2, 0);
        x.keep();
        dueApart("2^32 - 1 against 5", x, 16);
        // 2^31 is the least number of 32 bits, which has no size of its own.
        BackBay y = new BackBay();
        Due.begin(y, 5, 1 << 30);
        Due.read(y, "cell * c k;");
        y.gauge(0, 1, 1, 0);
        y.strip(1, 1);
        y.keep();
        y.strip(0, 3);
        y.strip(1, 3);
        y.keep();
        // Cell 1 is 2^30 and 3 * 2^30, which went round to -2^30.
        dueApart("2^31 against 10", y, 16 + 1);
    }

    private static void apartNone() {
        T.of("NONE: nowhere more than 0");
        dueApart("alike strips", two("+ c k", 20, 1, 1, 1), Due.NONE);
        dueApart("strips that nothing looks at", two("+ c 1", 20, 2, 3, 4), Due.NONE);
        dueApart("strips that come to the same", two("* 0 k", 20, 2, 3, 4), Due.NONE);
        BackBay x = two("+ c k", 5, 2, 3);
        T.due("of one and itself", x.apart(0, 0), Due.NONE);
        T.due("of the other and itself", x.apart(1, 1), Due.NONE);
    }

    private static void apartTillLast() {
        T.of("APART ..: of STEPS 0 to LAST");
        BackBay x = two("+ c k", 0, 2, 3);
        T.due("till the start", x.apart(0, 1), Due.NONE);
        x.gauge(1, 1, 0, 0);
        T.due("till the first step", x.apart(0, 1), 16 + 1);
        x.gauge(1, 20, 0, 0);
        T.due("till the last there can be", x.apart(0, 1), 16 * 20 + 1);
        x.out(2, 1);
        T.due("of a gauge that is not out", x.apart(0, 1), 16 + 1);
        BackBay y = new BackBay();
        y.bay(2);
        Due.read(y, "cell k;");
        y.keep();
        y.strip(0, 9);
        y.keep();
        T.due("without gauges", y.apart(0, 1), Due.NONE);
    }

    private static void apartOfCellsThere() {
        T.of("APART ..: of STEPS .., then CELLS (those that are there)");
        BackBay x = two("+ c k", 5, 1, 1, 1, 1, 1, 1, 1, 1, 1, 9);
        T.due("of ten cells", x.apart(0, 1), 16 * 5 + 9);
        for (int kept = 2; kept <= 5; kept++) {
            x.bay(11 - kept);
            T.due("keep", x.keep(), kept);
            T.due("of the first " + (11 - kept), x.apart(kept, kept), Due.NONE);
        }
        BackBay y = two("+ c k", 5, 1, 1, 9);
        T.due("of three cells", y.apart(0, 1), 16 * 5 + 2);
        y.bay(2);
        y.keep();
        y.strip(0, 2);
        y.keep();
        T.due("of two cells", y.apart(2, 3), 16 * 5);
    }

    private static void apartRefused() {
        T.of("apart: BAD");
        for (int no : Due.outside(0, 1)) {
            TWINS.refused(Twins.Made.FILLED, "apart " + no, x -> x.apart(no, 1), Due.BAD);
            TWINS.refused(Twins.Made.FILLED, "apart from " + no, x -> x.apart(1, no), Due.BAD);
        }
        for (int no : Due.outside(0, 5)) {
            TWINS.refused(Twins.Made.FULL, "apart " + no, x -> x.apart(no, 1), Due.BAD);
            TWINS.refused(Twins.Made.FULL, "apart from " + no, x -> x.apart(1, no), Due.BAD);
        }
        TWINS.refused(Twins.Made.NEW, "apart of none", x -> x.apart(0, 0), Due.BAD);
    }

    private static void apartState() {
        T.of("apart: STATE: one is of another number of CELLS than THE BAY.");
        TWINS.refused(Twins.Made.FULL, "the first is", x -> x.apart(0, 1), Due.STATE);
        TWINS.refused(Twins.Made.FULL, "the second is", x -> x.apart(1, 0), Due.STATE);
        TWINS.refused(Twins.Made.FULL, "both are", x -> x.apart(0, 0), Due.STATE);
        BackBay x = Twins.Made.FULL.make();
        x.bay(3);
        T.due("of as many cells now", x.apart(0, 0), Due.NONE);
        T.due("the others are not", x.apart(1, 2), Due.STATE);
    }
}
