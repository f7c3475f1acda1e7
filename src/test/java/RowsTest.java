/** Promises 1 to 5 and 30: rows, and the status of calls with a row. */
public final class RowsTest {
    private static final Due T = new Due();

    public static void main(String[] args) {
        newObject();
        row();
        set();
        copy();
        drop();
        status();
        T.end();
    }

    private static void newObject() {
        BackBay x = new BackBay();
        for (int row = 0; row < 8; row++) {
            T.due("a new object's row is missing", x.drop(row), Due.NULL);
        }
        long[] counts = {0, 0, 0, 4, 0, 0, 0, 0};
        for (int what = 0; what < counts.length; what++) {
            T.due("a new object's count " + what, x.count(what), counts[what]);
        }
        T.due("a new object's status", new BackBay().status(), 0);
        T.due("a new object's fault", new BackBay().fault(), 0);
        T.due("a new object's trace", new BackBay().trace(0), Due.NONE);
        for (int cell = 0; cell < 4; cell++) {
            T.due("a new object's cell", x.cell(cell, 0), 0);
            T.due("a new object's strips", x.strip(cell, 1), 1);
        }
        T.due("a new object's left edge", x.edge(0, 0), 0);
        T.due("a new object's right edge", x.edge(1, 0), 0);
        T.due("NONE", BackBay.NONE, -1000000);
        T.due("NOT", BackBay.NOT, -9000000000000000000L);
    }

    private static void row() {
        BackBay x = new BackBay();
        T.due("row of 0", x.row(0, 0, 0), 0);
        T.due("an empty row is there", x.count(0), 1);
        T.due("row of 20", x.row(7, 2, 20), 20);
        T.due("last item", x.set(7, 19, 5), 5);
        T.due("row anew", x.row(7, 2, 10), 10);
        T.due("the shorter row ends", x.set(7, 10, 1), Due.PLACE);
        T.due("row longer again", x.row(7, 2, 20), 20);
        x.bay(2);
        T.due("start of its end", x.start(7, 18), 2);
        T.due("items are 0 at first", x.cell(1, 0), 0);
        T.due("row -1", x.row(-1, 0, 1), Due.BAD);
        T.due("row 8", x.row(8, 0, 1), Due.BAD);
        T.due("lane -1", x.row(1, -1, 1), Due.BAD);
        T.due("lane 3", x.row(1, 3, 1), Due.BAD);
        T.due("21 items", x.row(1, 0, 21), Due.BAD);
        T.due("BAD comes ahead of SIZE: row", x.row(8, 0, -1), Due.BAD);
        T.due("BAD comes ahead of SIZE: lane", x.row(1, 3, -1), Due.BAD);
        T.due("-1 items", x.row(7, 0, -1), Due.SIZE);
        T.due("least items", x.row(7, 0, Integer.MIN_VALUE), Due.SIZE);
        T.due("what is found changes no row", x.drop(7), 20);
        T.due("rows there", x.count(0), 1);
    }

    private static void set() {
        BackBay x = new BackBay();
        x.row(0, 0, 2);
        x.row(1, 1, 2);
        x.row(2, 2, 2);
        T.due("byte 127", x.set(0, 0, 127), 127);
        T.due("byte 128", x.set(0, 0, 128), -128);
        T.due("byte 255", x.set(0, 0, 255), -1);
        T.due("byte 256", x.set(0, 0, 256), 0);
        T.due("byte -129", x.set(0, 0, -129), 127);
        T.due("short 32767", x.set(1, 1, 32767), 32767);
        T.due("short 32768", x.set(1, 1, 32768), -32768);
        T.due("short 70000", x.set(1, 1, 70000), 4464);
        T.due("int least", x.set(2, 1, Integer.MIN_VALUE), Integer.MIN_VALUE);
        T.due("int most", x.set(2, 1, Integer.MAX_VALUE), Integer.MAX_VALUE);
        T.due("row 8", x.set(8, 0, 0), Due.BAD);
        T.due("row -1", x.set(-1, 0, 0), Due.BAD);
        T.due("missing", x.set(3, 0, 0), Due.NULL);
        T.due("NULL comes ahead of PLACE", x.set(3, -1, 0), Due.NULL);
        T.due("place 2", x.set(0, 2, 0), Due.PLACE);
        T.due("place -1", x.set(0, -1, 0), Due.PLACE);
        T.due("place most", x.set(0, Integer.MAX_VALUE, 0), Due.PLACE);
        x.bay(2);
        x.set(0, 0, 200);
        x.set(0, 1, 7);
        x.start(0, 0);
        T.due("the item is held as told", x.cell(0, 0), -56);
        T.due("the other item", x.cell(1, 0), 7);
    }

    private static void copy() {
        BackBay x = new BackBay();
        x.row(0, 2, 6);
        for (int i = 0; i < 6; i++) {
            x.set(0, i, i + 1);
        }
        x.bay(6);
        T.due("copy onto itself forward", x.copy(0, 0, 0, 2, 4), 4);
        dueItems(x, 0, 1, 2, 1, 2, 3, 4);
        T.due("copy onto itself backward", x.copy(0, 2, 0, 1, 4), 4);
        dueItems(x, 0, 1, 1, 2, 3, 4, 4);
        x.row(1, 2, 6);
        T.due("copy to another", x.copy(0, 3, 1, 0, 3), 3);
        dueItems(x, 1, 3, 4, 4, 0, 0, 0);
        dueItems(x, 0, 1, 1, 2, 3, 4, 4);
        T.due("copy of none at the ends", x.copy(0, 6, 1, 6, 0), 0);
        T.due("none beyond an end", x.copy(0, 7, 1, 0, 0), Due.PLACE);
        T.due("none beyond the other end", x.copy(0, 0, 1, 7, 0), Due.PLACE);
        T.due("i below 0", x.copy(0, -1, 1, 0, 1), Due.PLACE);
        T.due("j below 0", x.copy(0, 0, 1, -1, 1), Due.PLACE);
        T.due("n below 0", x.copy(0, 0, 1, 0, -1), Due.PLACE);
        T.due("beyond the end of a", x.copy(0, 1, 1, 0, 6), Due.PLACE);
        T.due("beyond the end of b", x.copy(0, 0, 1, 1, 6), Due.PLACE);
        T.due("far beyond", x.copy(0, Integer.MAX_VALUE, 1, 0, Integer.MAX_VALUE), Due.PLACE);
        T.due("far beyond in b", x.copy(0, 0, 1, Integer.MAX_VALUE, 1), Due.PLACE);
        x.row(2, 1, 6);
        T.due("two lanes", x.copy(0, 0, 2, 0, 1), Due.STORE);
        T.due("STORE comes ahead of PLACE", x.copy(0, -1, 2, 0, 1), Due.STORE);
        T.due("two lanes, none copied", x.copy(0, 0, 2, 0, 0), Due.STORE);
        T.due("a missing", x.copy(3, 0, 0, 0, 1), Due.NULL);
        T.due("b missing", x.copy(0, -1, 3, 0, 1), Due.NULL);
        T.due("BAD a", x.copy(8, 0, 3, 0, 1), Due.BAD);
        T.due("BAD b", x.copy(3, 0, -1, 0, 1), Due.BAD);
        dueItems(x, 0, 1, 1, 2, 3, 4, 4);
        dueItems(x, 1, 3, 4, 4, 0, 0, 0);
    }

    private static void dueItems(BackBay x, int row, int... items) {
        x.start(row, 0);
        for (int i = 0; i < items.length; i++) {
            T.due("item " + i + " of row " + row, x.cell(i, 0), items[i]);
        }
    }

    private static void drop() {
        BackBay x = new BackBay();
        x.row(3, 1, 9);
        T.due("drop", x.drop(3), 9);
        T.due("dropped", x.drop(3), Due.NULL);
        T.due("dropped is missing for set", x.set(3, 0, 1), Due.NULL);
        T.due("dropped is missing for start", x.start(3, 0), Due.NULL);
        T.due("rows there", x.count(0), 0);
        T.due("drop -1", x.drop(-1), Due.BAD);
        T.due("drop 8", x.drop(8), Due.BAD);
        T.due("made anew", x.row(3, 2, 2), 2);
        T.due("drop anew", x.drop(3), 2);
    }

    private static void status() {
        BackBay x = new BackBay();
        x.row(0, 0, -1);
        T.due("SIZE", x.status(), 4);
        x.row(0, 3, -1);
        T.due("BAD leaves it", x.status(), 4);
        x.set(0, 0, 0);
        T.due("NULL", x.status(), 1);
        x.row(0, 0, 4);
        T.due("row finds none", x.status(), 0);
        x.set(0, 4, 0);
        T.due("PLACE", x.status(), 2);
        x.set(8, 4, 0);
        x.drop(8);
        x.copy(0, 0, 8, 0, 0);
        x.start(8, 0);
        x.as(0, 0);
        x.feed(0, 9);
        x.bay(3);
        x.bay(11);
        x.keep();
        x.bay(4);
        x.lay(0);
        T.due("other calls, BAD and STATE leave it", x.status(), 2);
        x.set(0, 0, 0);
        T.due("set finds none", x.status(), 0);
        x.row(1, 1, 4);
        x.copy(0, 0, 1, 0, 1);
        T.due("STORE", x.status(), 5);
        x.copy(0, 0, 0, 0, 1);
        T.due("copy finds none", x.status(), 0);
        x.start(0, 1);
        T.due("start finds PLACE", x.status(), 2);
        x.start(0, 0);
        T.due("start finds none", x.status(), 0);
        x.start(5, 0);
        T.due("start finds NULL", x.status(), 1);
        x.drop(1);
        T.due("drop finds none", x.status(), 0);
        x.drop(1);
        T.due("drop finds NULL", x.status(), 1);
        Due.read(x, "cell c;");
        T.due("reading leaves it", x.status(), 1);
        x.as(0, 5);
        T.due("as finds KIND", x.status(), 3);
        x.as(1, 0);
        x.as(0, 6);
        T.due("BAD as leaves it", x.status(), 3);
        x.as(0, 1);
        T.due("as finds none", x.status(), 0);
    }
}
