import java.util.ArrayList;
import java.util.List;

/**
 * "What is refused, or found, changes nothing but status()": a call is made on one of two objects
 * made alike, and all that can be seen of the two is compared. Each sight has objects of its own,
 * since looking changes them, and since an object is used for at most 512 calls.
 */
final class Twins {
    interface Call {
        long on(BackBay x);
    }

    private interface Sight {
        void look(BackBay x, List<Long> seen);
    }

    /** How an object was made ahead of the call. */
    enum Made {
        /** Nothing is there yet; status 0. */
        NEW,
        /** Something of everything; rows 4 to 7 are missing; 5 cells, 16 nodes; status 2. */
        FILLED,
        /** As FILLED, and no place is left on the tape, for gauges, strippings and rows; status 3. */
        FULL;

        BackBay make() {
            BackBay x = new BackBay();
            if (this != NEW) {
                fill(x);
            }
            if (this == FULL) {
                fillUp(x);
            }
            return x;
        }
    }

    private static final List<Sight> SIGHTS = sights();
    private static final List<List<List<Long>>> LEFT_ALONE = new ArrayList<>();

    static {
        for (Made made : Made.values()) {
            List<List<Long>> seen = new ArrayList<>();
            for (Sight sight : SIGHTS) {
                seen.add(look(sight, made.make()));
            }
            LEFT_ALONE.add(seen);
        }
    }

    private final Due t;

    Twins(Due t) {
        this.t = t;
    }

    private static void fill(BackBay x) {
        x.row(0, 0, 5);
        x.row(1, 1, 20);
        x.row(2, 2, 5);
        x.row(3, 2, 0);
        for (int i = 0; i < 5; i++) {
            x.set(0, i, 11 * i - 20);
            x.set(1, 3 * i, 1000 * i + 1);
            x.set(2, i, 3 * i - 5);
        }
        x.bay(3);
        x.strip(2, 8);
        x.keep();
        x.bay(5);
        x.start(2, 0);
        x.strip(0, 0);
        x.strip(3, 9);
        x.keep();
        x.strip(1, 4);
        x.edge(0, 6);
        x.edge(1, -7);
        Due.read(x, "cell q;");
        Due.read(x, "cell if c l + c k - c r;cell max min c 5 - k c;");
        x.gauge(1, 3, 2, 4);
        x.gauge(4, 2, -1, 9);
        x.out(1, 1);
        x.gauge(7, 20, 1, 1);
        x.ask(9, 0);
        Due.feed(x, "cell + ");
        x.set(2, 5, 0);
    }

    private static void fillUp(BackBay x) {
        for (int row = 3; row < 8; row++) {
            x.row(row, row % 3, 20);
            x.set(row, 19, row + 90);
        }
        for (int i = 0; i < 9; i++) {
            x.gauge(i % 5, 1 + i, i - 4, i);
        }
        for (int i = 0; i < 4; i++) {
            x.strip(2, i);
            x.keep();
        }
        for (int i = 0; i < 36; i++) {
            x.feed(0x2020202020202020L, 8);
        }
        x.feed(0x20202020632b20L, 5);
        x.as(0, 1);
    }

    // ---- what can be seen

    private static List<Sight> sights() {
        List<Sight> sights = new ArrayList<>();
        sights.add(Twins::seeNodes);
        sights.add(Twins::seeTape);
        sights.add(Twins::seeBay);
        sights.add(Twins::seeWishes);
        sights.add(Twins::seeGauges);
        for (int i = 0; i < 6; i++) {
            int stripping = i;
            sights.add((x, seen) -> seeStripping(x, stripping, seen));
        }
        for (int i = 0; i < 8; i++) {
            int row = i;
            sights.add((x, seen) -> seeRow(x, row, seen));
        }
        return sights;
    }

    private static List<Long> look(Sight sight, BackBay x) {
        List<Long> seen = new ArrayList<>();
        sight.look(x, seen);
        return seen;
    }

    private static void seeNodes(BackBay x, List<Long> seen) {
        for (int what = 0; what < 8; what++) {
            seen.add(x.count(what));
        }
        seen.add((long) x.fault());
        for (int i = 0; i < 17; i++) {
            seen.add((long) x.trace(i));
            seen.add(x.kind(i));
            seen.add(x.as(i, 0));
        }
    }

    private static void seeTape(BackBay x, List<Long> seen) {
        seen.add(x.feed(Due.word("c 1;"), 4));
        seen.add(x.stencils());
        seen.add((long) x.fault());
        seen.add(x.cell(0, 1));
    }

    private static void seeBay(BackBay x, List<Long> seen) {
        for (int cell = 0; cell < 10; cell++) {
            seen.add(x.cell(cell, 0));
            seen.add(x.cell(cell, 1));
            seen.add(x.cell(cell, 40));
            seen.add(x.strip(cell, 5));
        }
        seen.add(x.edge(0, 0));
        seen.add(x.edge(1, 0));
    }

    private static void seeWishes(BackBay x, List<Long> seen) {
        for (int what = 0; what < 3; what++) {
            seen.add(x.wish(what));
            for (int i = 0; i < 10; i++) {
                seen.add(x.slope(what, i));
            }
        }
        seen.add((long) x.rest());
        seen.add((long) x.move());
    }

    /** Each gauge alone, in a bay of all cells, and which of them were out. */
    private static void seeGauges(BackBay x, List<Long> seen) {
        for (int i = 0; i < 12; i++) {
            x.out(i, 1);
            seen.add(x.count(5));
        }
        x.bay(10);
        x.stencils();
        Due.read(x, "cell + c k;");
        for (int i = 0; i < 12; i++) {
            x.out(i, 0);
            seen.add(x.wish(0));
            seen.add(x.wish(1));
            for (int cell = 0; cell < 10; cell++) {
                seen.add(x.slope(1, cell));
            }
            x.out(i, 1);
        }
    }

    private static void seeStripping(BackBay x, int stripping, List<Long> seen) {
        for (int cells = 2; cells <= 10; cells++) {
            x.bay(cells);
            seen.add(x.lay(stripping));
            for (int cell = 0; cell < cells; cell++) {
                seen.add(x.strip(cell, 1));
            }
        }
    }

    /** By copies of all sizes to rows of all lanes: its size, its lane, its items. */
    private static void seeRow(BackBay x, int row, List<Long> seen) {
        int other = (row + 1) % 8;
        x.bay(10);
        for (int lane = 0; lane < 3; lane++) {
            x.row(other, lane, 20);
            for (int n = 0; n <= 20; n++) {
                seen.add(x.copy(row, 0, other, 0, n));
            }
            for (int from = 0; from <= 10; from += 10) {
                x.start(other, from);
                for (int cell = 0; cell < 10; cell++) {
                    seen.add(x.cell(cell, 0));
                }
            }
        }
        seen.add(x.drop(row));
    }

    // ---- what is refused

    /** However the object was made. */
    void refused(String what, Call call, long answer) {
        for (Made made : Made.values()) {
            refused(made, what, call, answer);
        }
    }

    void refused(Made made, String what, Call call, long answer) {
        String told = what + " (" + made + ")";
        BackBay x = made.make();
        int before = x.status();
        t.due(told, call.on(x), answer);
        t.due("status behind " + told, x.status(), answer <= BackBay.NOT - 10 ? BackBay.NOT - 10 - answer : before);
        dueAsLeftAlone(made, told, call);
    }

    /** For calls that only tell: they change not even status(). */
    void onlyTells(Made made, String what, Call call) {
        String told = what + " (" + made + ")";
        BackBay x = made.make();
        int before = x.status();
        call.on(x);
        t.due("status behind " + told, x.status(), before);
        dueAsLeftAlone(made, told, call);
    }

    private void dueAsLeftAlone(Made made, String told, Call call) {
        List<List<Long>> alone = LEFT_ALONE.get(made.ordinal());
        for (int i = 0; i < SIGHTS.size(); i++) {
            BackBay x = made.make();
            call.on(x);
            t.holds("sight " + i + " is as without " + told, look(SIGHTS.get(i), x).equals(alone.get(i)));
        }
    }
}
