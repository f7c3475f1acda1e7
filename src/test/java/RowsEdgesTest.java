/** Sentences on rows that name an edge: part 1 of the Terms, promises 1 to 5 and 30. */
public final class RowsEdgesTest {
    private static final Due T = new Due();
    private static final Twins TWINS = new Twins(T);
    private static final int MOST = Integer.MAX_VALUE;
    private static final int LEAST = Integer.MIN_VALUE;

    public static void main(String[] args) {
        missingAtFirst();
        allAsAtFirst();
        noughtToTwentyItems();
        noughtAtFirst();
        inPlaceOfWhatIsThere();
        rowRefused();
        rowSize();
        lowestBitsOfBytes();
        lowestBitsOfShorts();
        lowestBitsOfInts();
        setRefused();
        setPlace();
        copyAsTheyWereAhead();
        copyOfNoneAndAll();
        copyRefused();
        copyStore();
        copyPlaceOfA();
        copyPlaceOfB();
        copyPlaceOfN();
        drop();
        dropRefused();
        statusTold();
        statusKept();
        T.end();
    }

    /** The items that the row has, told by the bay: it has as many cells then. */
    private static void dueItems(BackBay x, int row, int... items) {
        x.bay(items.length);
        T.due("as many items of row " + row, x.start(row, 0), items.length);
        T.due("no item more of row " + row, x.start(row, 1), Due.PLACE);
        for (int i = 0; i < items.length; i++) {
            T.due("item " + i + " of row " + row, x.cell(i, 0), items[i]);
        }
    }

    private static BackBay withRow(int row, int lane, int... items) {
        BackBay x = new BackBay();
        putRow(x, row, lane, items);
        return x;
    }

    private static void putRow(BackBay x, int row, int lane, int... items) {
        x.row(row, lane, items.length);
        for (int i = 0; i < items.length; i++) {
            x.set(row, i, items[i]);
        }
    }

    private static void missingAtFirst() {
        T.of("ROWS 0 .. 7 are missing (at first)");
        for (int row = 0; row <= 7; row++) {
            int r = row;
            TWINS.refused(Twins.Made.NEW, "drop " + r, x -> x.drop(r), Due.NULL);
            TWINS.refused(Twins.Made.NEW, "set " + r, x -> x.set(r, 0, 1), Due.NULL);
            TWINS.refused(Twins.Made.NEW, "start " + r, x -> x.start(r, 0), Due.NULL);
            TWINS.refused(Twins.Made.NEW, "copy " + r, x -> x.copy(r, 0, r, 0, 0), Due.NULL);
        }
    }

    private static void allAsAtFirst() {
        T.of("All as at first.");
        Twins.Made.FULL.make();
        BackBay x = new BackBay();
        T.due("status", x.status(), 0);
        T.due("fault", x.fault(), 0);
        long[] counts = {0, 0, 0, 4, 0, 0, 0, 0};
        for (int what = 0; what < 8; what++) {
            T.due("count " + what, x.count(what), counts[what]);
        }
        T.due("trace", x.trace(0), Due.NONE);
        for (int cell = 0; cell < 4; cell++) {
            T.due("start", x.cell(cell, 0), 0);
            T.due("strips", x.strip(cell, 1), 1);
        }
        T.due("left edge", x.edge(0, 0), 0);
        T.due("right edge", x.edge(1, 0), 0);
        T.due("wish", x.wish(0), 0);
        T.due("last", x.wish(1), 0);
        T.due("knots", x.wish(2), 0);
        T.due("at rest", x.rest(), 1);
    }

    private static void noughtToTwentyItems() {
        T.of("or have a LANE (0 bytes, 1 shorts, 2 ints) and 0 to 20 ITEMS");
        for (int lane = 0; lane <= 2; lane++) {
            BackBay x = new BackBay();
            T.due("no items", x.row(0, lane, 0), 0);
            T.due("a row without items is there", x.count(0), 1);
            T.due("it has no first item", x.set(0, 0, 1), Due.PLACE);
            T.due("none of it can be copied", x.copy(0, 0, 0, 0, 0), 0);
            T.due("no items dropped", x.drop(0), 0);
            T.due("one item", x.row(0, lane, 1), 1);
            T.due("it has the first", x.set(0, 0, 1), 1);
            T.due("it has no second", x.set(0, 1, 1), Due.PLACE);
            T.due("20 items", x.row(7, lane, 20), 20);
            T.due("it has the last", x.set(7, 19, 1), 1);
            T.due("it has no 21st", x.set(7, 20, 1), Due.PLACE);
            T.due("20 dropped", x.drop(7), 20);
        }
        BackBay all = new BackBay();
        for (int row = 0; row <= 7; row++) {
            T.due("row " + row, all.row(row, 2, 20), 20);
            T.due("rows there", all.count(0), row + 1);
            all.set(row, 19, 100 + row);
        }
        all.bay(2);
        for (int row = 0; row <= 7; row++) {
            all.start(row, 18);
            T.due("last item of row " + row, all.cell(1, 0), 100 + row);
        }
    }

    private static void noughtAtFirst() {
        T.of("0 to 20 ITEMS, 0 at first");
        for (int lane = 0; lane <= 2; lane++) {
            BackBay x = new BackBay();
            x.row(0, lane, 20);
            for (int i = 0; i < 20; i++) {
                x.set(0, i, 1 + i);
            }
            x.drop(0);
            x.row(0, lane, 20);
            x.bay(10);
            for (int from = 0; from <= 10; from += 10) {
                x.start(0, from);
                for (int cell = 0; cell < 10; cell++) {
                    T.due("item " + (from + cell), x.cell(cell, 0), 0);
                }
            }
        }
    }

    private static void inPlaceOfWhatIsThere() {
        T.of("A ROW of a LANE with n ITEMS, in place of what is there: n.");
        BackBay x = withRow(4, 2, 70000, 2, 3);
        T.due("shorter, of another lane", x.row(4, 1, 2), 2);
        T.due("rows there", x.count(0), 1);
        dueItems(x, 4, 0, 0);
        T.due("an item of that lane", x.set(4, 0, 70000), 4464);
        T.due("longer, of a third lane", x.row(4, 0, 4), 4);
        dueItems(x, 4, 0, 0, 0, 0);
        T.due("an item of that lane", x.set(4, 3, 70000), 112);
        T.due("without items", x.row(4, 0, 0), 0);
        T.due("rows there", x.count(0), 1);
        T.due("no item is left", x.set(4, 0, 1), Due.PLACE);
        T.due("as long again", x.row(4, 0, 4), 4);
        dueItems(x, 4, 0, 0, 0, 0);
    }

    private static void rowRefused() {
        T.of("row: BAD: ROW, LANE, n above 20");
        for (int no : Due.outside(0, 7)) {
            TWINS.refused("row " + no, x -> x.row(no, 0, 1), Due.BAD);
        }
        for (int no : Due.outside(0, 2)) {
            TWINS.refused("lane " + no, x -> x.row(0, no, 1), Due.BAD);
        }
        TWINS.refused("21 items", x -> x.row(0, 0, 21), Due.BAD);
        TWINS.refused("the most items", x -> x.row(0, 0, MOST), Due.BAD);
    }

    private static void rowSize() {
        T.of("4 SIZE (fewer than none)");
        for (int row = 0; row <= 7; row++) {
            int r = row;
            TWINS.refused("-1 items of " + r, x -> x.row(r, 1, -1), Due.SIZE);
        }
        TWINS.refused("the least items", x -> x.row(0, 2, LEAST), Due.SIZE);
        T.due("none is taken", new BackBay().row(0, 2, 0), 0);
    }

    private static void dueSet(int lane, int v, int due) {
        BackBay x = new BackBay();
        x.row(0, lane, 2);
        x.set(0, 0, 77);
        T.due("set " + v, x.set(0, 1, v), due);
        dueItems(x, 0, 77, due);
    }

    private static void lowestBitsOfBytes() {
        T.of("ITEM i becomes v, its lowest bits, as many as the LANE has: what it is then. (bytes)");
        dueSet(0, 127, 127);
        dueSet(0, 128, -128);
        dueSet(0, 255, -1);
        dueSet(0, 256, 0);
        dueSet(0, 383, 127);
        dueSet(0, 384, -128);
        dueSet(0, -1, -1);
        dueSet(0, -128, -128);
        dueSet(0, -129, 127);
        dueSet(0, -256, 0);
        dueSet(0, MOST, -1);
        dueSet(0, LEAST, 0);
    }

    private static void lowestBitsOfShorts() {
        T.of("ITEM i becomes v, its lowest bits, as many as the LANE has: what it is then. (shorts)");
        dueSet(1, 128, 128);
        dueSet(1, 32767, 32767);
        dueSet(1, 32768, -32768);
        dueSet(1, 65535, -1);
        dueSet(1, 65536, 0);
        dueSet(1, 98303, 32767);
        dueSet(1, 98304, -32768);
        dueSet(1, -32768, -32768);
        dueSet(1, -32769, 32767);
        dueSet(1, -65536, 0);
        dueSet(1, MOST, -1);
        dueSet(1, LEAST, 0);
    }

    private static void lowestBitsOfInts() {
        T.of("ITEM i becomes v, its lowest bits, as many as the LANE has: what it is then. (ints)");
        dueSet(2, 32768, 32768);
        dueSet(2, 65536, 65536);
        dueSet(2, MOST, MOST);
        dueSet(2, LEAST, LEAST);
        dueSet(2, -1, -1);
    }

    private static void setRefused() {
        T.of("set: BAD: ROW; NULL");
        for (int no : Due.outside(0, 7)) {
            TWINS.refused("row " + no, x -> x.set(no, 0, 1), Due.BAD);
        }
        for (int row = 4; row <= 7; row++) {
            int r = row;
            TWINS.refused(Twins.Made.FILLED, "missing " + r, x -> x.set(r, 0, 1), Due.NULL);
        }
    }

    private static void setPlace() {
        T.of("set: PLACE");
        BackBay x = Twins.Made.FILLED.make();
        T.due("the first of 5", x.set(0, 0, 1), 1);
        T.due("the last of 5", x.set(0, 4, 1), 1);
        T.due("the last of 20", x.set(1, 19, 1), 1);
        for (int no : Due.outside(0, 4)) {
            TWINS.refused(Twins.Made.FILLED, "item " + no + " of 5", y -> y.set(0, no, 1), Due.PLACE);
        }
        for (int no : Due.outside(0, 19)) {
            TWINS.refused(Twins.Made.FULL, "item " + no + " of 20", y -> y.set(1, no, 1), Due.PLACE);
        }
        for (int no : Due.outside(0, -1)) {
            TWINS.refused(Twins.Made.FILLED, "item " + no + " of none", y -> y.set(3, no, 1), Due.PLACE);
        }
    }

    private static void copyAsTheyWereAhead() {
        T.of("n ITEMS of a from i on come to b from j on, as they were ahead: n.");
        for (int lane = 0; lane <= 2; lane++) {
            BackBay x = withRow(3, lane, 1, 2, 3, 4, 5);
            T.due("one place up", x.copy(3, 0, 3, 1, 4), 4);
            dueItems(x, 3, 1, 1, 2, 3, 4);
            T.due("one place down", x.copy(3, 1, 3, 0, 4), 4);
            dueItems(x, 3, 1, 2, 3, 4, 4);
            T.due("onto itself", x.copy(3, 0, 3, 0, 5), 5);
            dueItems(x, 3, 1, 2, 3, 4, 4);
            putRow(x, 6, lane, 7, 8, 9);
            T.due("to another", x.copy(6, 1, 3, 3, 2), 2);
            dueItems(x, 3, 1, 2, 3, 8, 9);
            dueItems(x, 6, 7, 8, 9);
        }
        BackBay y = withRow(0, 2, MOST, LEAST);
        y.row(1, 2, 2);
        y.copy(0, 0, 1, 0, 2);
        dueItems(y, 1, MOST, LEAST);
    }

    private static void copyOfNoneAndAll() {
        T.of("copy: n ITEMS of a from i on (none, and all of 20)");
        BackBay x = new BackBay();
        x.row(0, 1, 20);
        x.row(1, 1, 20);
        x.row(2, 1, 0);
        x.set(0, 0, 5);
        x.set(0, 19, 6);
        T.due("all", x.copy(0, 0, 1, 0, 20), 20);
        x.bay(2);
        x.start(1, 18);
        T.due("the last came", x.cell(1, 0), 6);
        x.start(1, 0);
        T.due("the first came", x.cell(0, 0), 5);
        T.due("none, from both ends", x.copy(0, 20, 1, 20, 0), 0);
        T.due("none, to none", x.copy(0, 0, 2, 0, 0), 0);
        T.due("none, of none", x.copy(2, 0, 0, 20, 0), 0);
        T.due("the last to the first", x.copy(0, 19, 1, 0, 1), 1);
        x.start(1, 0);
        T.due("it came", x.cell(0, 0), 6);
        T.due("the first to the last", x.copy(0, 0, 1, 19, 1), 1);
        x.start(1, 18);
        T.due("it came", x.cell(1, 0), 5);
    }

    private static void copyRefused() {
        T.of("copy: BAD: ROWS; NULL");
        for (int no : Due.outside(0, 7)) {
            TWINS.refused("of " + no, x -> x.copy(no, 0, 0, 0, 1), Due.BAD);
            TWINS.refused("to " + no, x -> x.copy(0, 0, no, 0, 1), Due.BAD);
            TWINS.refused("of and to " + no, x -> x.copy(no, 0, no, 0, 0), Due.BAD);
        }
        for (int row = 4; row <= 7; row++) {
            int r = row;
            TWINS.refused(Twins.Made.FILLED, "of the missing " + r, x -> x.copy(r, 0, 0, 0, 1), Due.NULL);
            TWINS.refused(Twins.Made.FILLED, "to the missing " + r, x -> x.copy(0, 0, r, 0, 1), Due.NULL);
            TWINS.refused(Twins.Made.FILLED, "of none to the missing " + r, x -> x.copy(0, 0, r, 0, 0), Due.NULL);
        }
    }

    private static void copyStore() {
        T.of("5 STORE (ROWS of two LANES)");
        for (int a = 0; a < 3; a++) {
            for (int b = 0; b < 3; b++) {
                int from = a;
                int to = b;
                if (a == b) {
                    T.due("of one lane", Twins.Made.FILLED.make().copy(from, 0, to, 1, 2), 2);
                } else {
                    TWINS.refused(Twins.Made.FILLED, from + " to " + to, x -> x.copy(from, 0, to, 0, 2), Due.STORE);
                    TWINS.refused(Twins.Made.FILLED, "none of " + from + " to " + to,
                            x -> x.copy(from, 0, to, 0, 0), Due.STORE);
                }
            }
        }
        BackBay x = Twins.Made.FILLED.make();
        x.row(0, 2, 5);
        T.due("of one lane now", x.copy(0, 0, 2, 0, 5), 5);
    }

    private static void copyPlaceOfA() {
        T.of("copy: PLACE (i .. below 0, or beyond an end)");
        // Row 2 has 5 items, row 5 of the full one 20 of the same lane.
        BackBay x = Twins.Made.FULL.make();
        T.due("the last item", x.copy(2, 4, 5, 0, 1), 1);
        T.due("all items", x.copy(2, 0, 5, 0, 5), 5);
        T.due("none at the end", x.copy(2, 5, 5, 0, 0), 0);
        for (int no : Due.outside(0, 4)) {
            TWINS.refused(Twins.Made.FULL, "one from " + no, y -> y.copy(2, no, 5, 0, 1), Due.PLACE);
        }
        for (int no : Due.outside(0, 5)) {
            TWINS.refused(Twins.Made.FULL, "none from " + no, y -> y.copy(2, no, 5, 0, 0), Due.PLACE);
        }
        TWINS.refused(Twins.Made.FULL, "6 of 5", y -> y.copy(2, 0, 5, 0, 6), Due.PLACE);
        TWINS.refused(Twins.Made.FULL, "5 from 1", y -> y.copy(2, 1, 5, 0, 5), Due.PLACE);
        TWINS.refused(Twins.Made.FULL, "a sum that goes round", y -> y.copy(2, MOST, 5, 0, 3), Due.PLACE);
    }

    private static void copyPlaceOfB() {
        T.of("copy: PLACE (.. j .. below 0, or beyond an end)");
        BackBay x = Twins.Made.FULL.make();
        T.due("the last item", x.copy(5, 0, 2, 4, 1), 1);
        T.due("all items", x.copy(5, 15, 2, 0, 5), 5);
        T.due("none at the end", x.copy(5, 0, 2, 5, 0), 0);
        for (int no : Due.outside(0, 4)) {
            TWINS.refused(Twins.Made.FULL, "one to " + no, y -> y.copy(5, 0, 2, no, 1), Due.PLACE);
        }
        for (int no : Due.outside(0, 5)) {
            TWINS.refused(Twins.Made.FULL, "none to " + no, y -> y.copy(5, 0, 2, no, 0), Due.PLACE);
        }
        TWINS.refused(Twins.Made.FULL, "6 to 5", y -> y.copy(5, 0, 2, 0, 6), Due.PLACE);
        TWINS.refused(Twins.Made.FULL, "5 to 1", y -> y.copy(5, 0, 2, 1, 5), Due.PLACE);
        TWINS.refused(Twins.Made.FULL, "a sum that goes round", y -> y.copy(5, 0, 2, MOST, 3), Due.PLACE);
    }

    private static void copyPlaceOfN() {
        T.of("copy: PLACE (.. n below 0, or beyond an end)");
        for (int n : new int[] {-1, -5, LEAST}) {
            TWINS.refused(Twins.Made.FILLED, n + " items", x -> x.copy(2, 0, 2, 0, n), Due.PLACE);
            TWINS.refused(Twins.Made.FILLED, n + " items from an end", x -> x.copy(2, 5, 2, 5, n), Due.PLACE);
        }
        for (int n : new int[] {6, MOST}) {
            TWINS.refused(Twins.Made.FILLED, n + " items", x -> x.copy(2, 0, 2, 0, n), Due.PLACE);
            TWINS.refused(Twins.Made.FILLED, n + " items from 1", x -> x.copy(2, 1, 2, 1, n), Due.PLACE);
        }
        TWINS.refused(Twins.Made.FILLED, "one of none", x -> x.copy(3, 0, 3, 0, 1), Due.PLACE);
        TWINS.refused(Twins.Made.FULL, "21 of 20", x -> x.copy(1, 0, 1, 0, 21), Due.PLACE);
    }

    private static void drop() {
        T.of("A ROW is missing from now on: how many ITEMS it had.");
        BackBay x = new BackBay();
        for (int row = 0; row <= 7; row++) {
            x.row(row, row % 3, row == 0 ? 0 : 13 + row);
        }
        for (int row = 7; row >= 0; row--) {
            T.due("drop " + row, x.drop(row), row == 0 ? 0 : 13 + row);
            T.due("rows there", x.count(0), row);
            T.due("a second time", x.drop(row), Due.NULL);
            T.due("it is missing for set", x.set(row, 0, 1), Due.NULL);
            T.due("it is missing for start", x.start(row, 0), Due.NULL);
            T.due("it is missing for copy", x.copy(row, 0, row, 0, 0), Due.NULL);
        }
    }

    private static void dropRefused() {
        T.of("drop: BAD; NULL.");
        for (int no : Due.outside(0, 7)) {
            TWINS.refused("drop " + no, x -> x.drop(no), Due.BAD);
        }
        for (int row = 4; row <= 7; row++) {
            int r = row;
            TWINS.refused(Twins.Made.FILLED, "drop " + r, x -> x.drop(r), Due.NULL);
        }
    }

    private static void dueStatus(String what, int status, Twins.Call call) {
        for (int before = 0; before < 3; before++) {
            BackBay x = Twins.Made.FILLED.make();
            if (before == 0) {
                x.set(0, 0, 0);
            } else {
                x.as(0, before == 1 ? 1 : 0);
            }
            call.on(x);
            T.due("status behind " + what, x.status(), status);
        }
    }

    private static void statusTold() {
        T.of("Of the latest call with a ROW, or as(), ..: the number of its FINDING; 0: it had none");
        dueStatus("row", 0, x -> x.row(0, 0, 1));
        dueStatus("row, SIZE", 4, x -> x.row(0, 0, -1));
        dueStatus("set", 0, x -> x.set(0, 0, 1));
        dueStatus("set, NULL", 1, x -> x.set(7, 0, 1));
        dueStatus("set, PLACE", 2, x -> x.set(0, 5, 1));
        dueStatus("copy", 0, x -> x.copy(0, 0, 0, 0, 0));
        dueStatus("copy, NULL", 1, x -> x.copy(0, 0, 7, 0, 0));
        dueStatus("copy, STORE", 5, x -> x.copy(0, 0, 1, 0, 0));
        dueStatus("copy, PLACE", 2, x -> x.copy(0, 0, 0, 0, -1));
        dueStatus("drop", 0, x -> x.drop(0));
        dueStatus("drop, NULL", 1, x -> x.drop(7));
        dueStatus("start", 0, x -> x.start(0, 0));
        dueStatus("start, NULL", 1, x -> x.start(7, 0));
        dueStatus("start, PLACE", 2, x -> x.start(0, 1));
        dueStatus("as", 0, x -> x.as(0, 5));
        dueStatus("as, KIND", 3, x -> x.as(0, 2));
    }

    /** What the call leaves: 2 where 2 was, and so on. */
    private static void dueStatusKept(String what, Twins.Call call) {
        BackBay x = Twins.Made.FULL.make();
        call.on(x);
        T.due("status behind " + what, x.status(), 3);
        BackBay y = Twins.Made.FILLED.make();
        call.on(y);
        T.due("status behind " + what, y.status(), 2);
        BackBay z = new BackBay();
        call.on(z);
        T.due("status behind " + what, z.status(), 0);
    }

    private static void statusKept() {
        T.of("status: .. that was not BAD, STATE, FULL ..; 0: .. or there was none");
        dueStatusKept("row, BAD", x -> x.row(8, 0, 0));
        dueStatusKept("set, BAD", x -> x.set(8, 0, 0));
        dueStatusKept("copy, BAD", x -> x.copy(0, 0, 8, 0, 0));
        dueStatusKept("drop, BAD", x -> x.drop(8));
        dueStatusKept("start, BAD", x -> x.start(8, 0));
        dueStatusKept("as, BAD", x -> x.as(60, 0));
        dueStatusKept("feed, or FULL", x -> x.feed(0x20, 1));
        dueStatusKept("stencils", x -> x.stencils());
        dueStatusKept("fault", x -> x.fault());
        dueStatusKept("bay", x -> x.bay(3));
        dueStatusKept("strip", x -> x.strip(0, 3));
        dueStatusKept("edge", x -> x.edge(0, 3));
        dueStatusKept("cell", x -> x.cell(0, 3));
        dueStatusKept("gauge, or FULL", x -> x.gauge(0, 1, 1, 1));
        dueStatusKept("out", x -> x.out(0, 1));
        dueStatusKept("wish", x -> x.wish(0));
        dueStatusKept("slope", x -> x.slope(0, 0));
        dueStatusKept("push", x -> x.push(0, 3));
        dueStatusKept("again", x -> x.again(3, 3, 0));
        dueStatusKept("move", x -> x.move());
        dueStatusKept("rest", x -> x.rest());
        dueStatusKept("keep, or FULL", x -> x.keep());
        dueStatusKept("lay, STATE or BAD", x -> x.lay(0));
        dueStatusKept("lay", x -> x.lay(1));
        dueStatusKept("apart, STATE or BAD", x -> x.apart(0, 1));
        dueStatusKept("kind", x -> x.kind(0));
        dueStatusKept("ask", x -> x.ask(0, 0));
        dueStatusKept("trace", x -> x.trace(0));
        dueStatusKept("count", x -> x.count(0));
        dueStatusKept("status", x -> x.status());
    }
}
