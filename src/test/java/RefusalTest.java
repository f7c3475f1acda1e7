import java.util.ArrayList;
import java.util.List;

/** What is refused, or found, changes nothing but status(): told by all that can be seen behind it. */
public final class RefusalTest {
    private static final Due T = new Due();
    private static final int MOST = Integer.MAX_VALUE;
    private static final int LEAST = Integer.MIN_VALUE;

    public static void main(String[] args) {
        refusalsOf(false);
        refusalsOf(true);
        asksChangeNothing();
        T.end();
    }

    /** An object with something of everything; full, if asked for. */
    private static BackBay made(boolean full) {
        BackBay x = new BackBay();
        x.row(0, 0, 5);
        x.row(1, 1, 20);
        x.row(2, 2, 5);
        x.row(3, 2, 0);
        for (int i = 0; i < 5; i++) {
            x.set(0, i, 11 * i - 20);
            x.set(1, i, 1000 * i);
            x.set(2, i, 3 * i - 5);
        }
        x.bay(3);
        x.keep();
        x.bay(5);
        x.start(2, 0);
        x.strip(0, 0);
        x.strip(3, 9);
        x.keep();
        x.edge(0, 6);
        x.edge(1, -7);
        Due.read(x, "cell q;");
        Due.read(x, "cell if c l + c k - c r;cell max min c 5 - k c;");
        x.gauge(1, 3, 2, 4);
        x.gauge(4, 2, -1, 9);
        x.out(1, 1);
        x.gauge(7, 20, 1, 1);
        x.ask(5, 0);
        Due.feed(x, "cell + ");
        for (int i = 0; full && i < 37; i++) {
            x.feed(0x2020202020202020L, 8);
            x.gauge(0, 1, 1, 1);
            x.keep();
        }
        return x;
    }

    private static void refusalsOf(boolean full) {
        BackBay left = made(full);
        BackBay refused = made(full);
        refuseAll(refused);
        if (full) {
            T.due("full tape", refused.feed(0, 8), Due.FULL);
            T.due("full gauges", refused.gauge(0, 0, 0, 0), Due.FULL);
            T.due("full strippings", refused.keep(), Due.FULL);
        }
        T.due("status tells the latest finding", refused.status(), 3);
        List<Long> a = seen(left);
        List<Long> b = seen(refused);
        T.due("as much is seen", b.size(), a.size());
        for (int i = 0; i < a.size(); i++) {
            T.due("sight " + i + (full ? " of the full one" : ""), b.get(i), a.get(i));
        }
    }

    private static void refuseAll(BackBay x) {
        for (int no : new int[] {-1, 8, MOST, LEAST}) {
            T.due("row " + no, x.row(no, 0, 1), Due.BAD);
            T.due("set " + no, x.set(no, 0, 1), Due.BAD);
            T.due("copy " + no, x.copy(no, 0, 0, 0, 1), Due.BAD);
            T.due("copy to " + no, x.copy(0, 0, no, 0, 1), Due.BAD);
            T.due("drop " + no, x.drop(no), Due.BAD);
            T.due("start " + no, x.start(no, 0), Due.BAD);
        }
        for (int no : new int[] {-1, 20, MOST, LEAST}) {
            T.due("lane " + no, x.row(0, no, 1), Due.BAD);
            T.due("feed " + no, x.feed(0x63, no), Due.BAD);
            T.due("bay " + no, x.bay(no), Due.BAD);
            T.due("strip of " + no, x.strip(no, 3), Due.BAD);
            T.due("strips " + no, x.strip(0, no), Due.BAD);
            T.due("edge " + no, x.edge(no, 3), Due.BAD);
            T.due("cell " + no, x.cell(no, 0), Due.BAD);
            T.due("gauge " + no, x.gauge(no, 0, 0, 0), Due.BAD);
            T.due("gauge's weight " + no, x.gauge(0, 0, no == -1 ? -10 : no, 0), Due.BAD);
            T.due("out " + no, x.out(no, 1), Due.BAD);
            T.due("out by " + no, x.out(0, no), Due.BAD);
            T.due("wish " + no, x.wish(no), Due.BAD);
            T.due("slope " + no, x.slope(no, 0), Due.BAD);
            T.due("slope of strips " + no, x.slope(0, no), Due.BAD);
            T.due("slope of start " + no, x.slope(1, no), Due.BAD);
            T.due("slope of edge " + no, x.slope(2, no), Due.BAD);
            T.due("push " + no, x.push(no, 1), Due.BAD);
            T.due("again places " + no, x.again(1, no, 0), Due.BAD);
            T.due("again what " + no, x.again(1, 0, no), Due.BAD);
            T.due("lay " + no, x.lay(no), Due.BAD);
            T.due("apart " + no, x.apart(no, 0), Due.BAD);
            T.due("apart from " + no, x.apart(0, no), Due.BAD);
            T.due("kind " + no, x.kind(no), Due.BAD);
            T.due("as of " + no, x.as(no, 0), Due.BAD);
            T.due("as " + no, x.as(0, no), Due.BAD);
            T.due("ask of " + no, x.ask(no, 0), Due.BAD);
            T.due("ask " + no, x.ask(0, no), Due.BAD);
            T.due("trace " + no, x.trace(no), Due.NONE);
            T.due("count " + no, x.count(no), Due.BAD);
        }
        for (int no : new int[] {-1, 41, MOST, LEAST}) {
            T.due("cell behind " + no, x.cell(0, no), Due.BAD);
            T.due("gauge behind " + no, x.gauge(0, no, 0, 0), Due.BAD);
            T.due("again of " + no, x.again(no, 0, 0), Due.BAD);
        }
        T.due("gauge behind 21", x.gauge(0, 21, 0, 0), Due.BAD);
        T.due("again of 0", x.again(0, 0, 0), Due.BAD);
        T.due("feed of 0", x.feed(0x63, 0), Due.BAD);
        T.due("items 21", x.row(0, 0, 21), Due.BAD);
        T.due("items most", x.row(0, 0, MOST), Due.BAD);
        T.due("lay of another number", x.lay(0), Due.STATE);
        T.due("apart of another number", x.apart(0, 1), Due.STATE);
        T.due("apart of another number", x.apart(1, 0), Due.STATE);
        find(x);
    }

    private static void find(BackBay x) {
        T.due("SIZE", x.row(0, 1, -1), Due.SIZE);
        T.due("SIZE of a missing row", x.row(7, 1, LEAST), Due.SIZE);
        T.due("NULL set", x.set(7, 0, 1), Due.NULL);
        T.due("NULL copy", x.copy(7, 0, 0, 0, 1), Due.NULL);
        T.due("NULL copy to", x.copy(0, 0, 7, 0, 1), Due.NULL);
        T.due("NULL drop", x.drop(7), Due.NULL);
        T.due("NULL start", x.start(7, 0), Due.NULL);
        T.due("STORE", x.copy(0, 0, 1, 0, 2), Due.STORE);
        for (int no : new int[] {-1, 20, MOST, LEAST}) {
            T.due("PLACE set " + no, x.set(1, no, 1), Due.PLACE);
            T.due("PLACE copy " + no, x.copy(1, no, 1, 0, 1), Due.PLACE);
            T.due("PLACE copy to " + no, x.copy(1, 0, 1, no, 1), Due.PLACE);
            T.due("PLACE copy of " + no, x.copy(1, 1, 1, 0, no), Due.PLACE);
            T.due("PLACE start " + no, x.start(1, no), Due.PLACE);
        }
        T.due("PLACE of an empty row", x.set(3, 0, 1), Due.PLACE);
        T.due("PLACE start of an empty row", x.start(3, 0), Due.PLACE);
        T.due("KIND", x.as(0, 1), Due.KIND);
    }

    /** All that can be seen; the sights of rows at the end lay a new start. */
    private static List<Long> seen(BackBay x) {
        List<Long> sights = new ArrayList<>();
        for (int i = 0; i < 8; i++) {
            sights.add(x.count(i));
        }
        sights.add((long) x.fault());
        for (int i = 0; i < 16; i++) {
            sights.add((long) x.trace(i));
            sights.add(x.kind(i));
        }
        for (int cell = 0; cell < 5; cell++) {
            sights.add(x.cell(cell, 0));
            sights.add(x.cell(cell, 3));
            sights.add(x.slope(0, cell));
            sights.add(x.slope(1, cell));
        }
        for (int what = 0; what < 3; what++) {
            sights.add(x.wish(what));
        }
        sights.add(x.slope(2, 0));
        sights.add(x.slope(2, 1));
        for (int i = 0; i < 12; i++) {
            x.out(i, 0);
            sights.add(x.wish(0));
        }
        sights.add(x.apart(1, 1));
        Due.feed(x, "c 1;");
        sights.add(x.stencils());
        seeStrips(x, sights);
        sights.add(x.lay(1));
        seeStrips(x, sights);
        sights.add(x.edge(0, 0));
        sights.add(x.edge(1, 0));
        for (int row = 0; row < 8; row++) {
            sights.add(x.start(row, 0));
            for (int cell = 0; cell < 5; cell++) {
                sights.add(x.cell(cell, 0));
            }
            sights.add(x.drop(row));
        }
        x.bay(3);
        sights.add(x.lay(0));
        return sights;
    }

    private static void seeStrips(BackBay x, List<Long> sights) {
        for (int cell = 0; cell < 5; cell++) {
            long was = x.strip(cell, 5);
            sights.add(was);
            x.strip(cell, (int) was);
        }
    }

    private static void asksChangeNothing() {
        BackBay left = made(false);
        BackBay asked = made(false);
        for (int cell = 0; cell < 5; cell++) {
            asked.cell(cell, 40);
            asked.slope(0, cell);
            asked.push(cell, 3);
        }
        asked.wish(0);
        asked.wish(2);
        asked.rest();
        asked.again(9, 2, 0);
        asked.apart(1, 1);
        asked.kind(0);
        asked.count(0);
        T.due("what only tells changes nothing", seen(asked).hashCode(), seen(left).hashCode());
    }
}
