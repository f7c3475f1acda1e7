/** Promises 25 to 29: kinds, asks, the trace, and counts. */
public final class AsksTest {
    private static final Due T = new Due();

    public static void main(String[] args) {
        kindAndAs();
        ask();
        trace();
        count();
        T.end();
    }

    private static void dueKind(BackBay x, int node, int kind, int nodes, int... kinds) {
        T.due("kind of " + node, x.kind(node), kind);
        for (int as = 0; as <= 5; as++) {
            boolean is = false;
            for (int k : kinds) {
                is |= k == as;
            }
            T.due("node " + node + " as " + as, x.as(node, as), is ? nodes : Due.KIND);
            T.due("status of that", x.status(), is ? 0 : 3);
        }
    }

    private static void kindAndAs() {
        BackBay x = new BackBay();
        T.due("no nodes", x.kind(0), Due.BAD);
        T.due("no nodes", x.as(0, 0), Due.BAD);
        Due.read(x, "cell if l c r k;cell max min + 7 c - c 1 * c c;");
        dueKind(x, 0, 5, 5, 0, 5);
        dueKind(x, 1, 2, 1, 0, 1, 2);
        dueKind(x, 2, 2, 1, 0, 1, 2);
        dueKind(x, 3, 2, 1, 0, 1, 2);
        dueKind(x, 4, 2, 1, 0, 1, 2);
        dueKind(x, 5, 4, 11, 0, 3, 4);
        dueKind(x, 6, 4, 7, 0, 3, 4);
        dueKind(x, 7, 3, 3, 0, 3);
        dueKind(x, 8, 1, 1, 0, 1);
        dueKind(x, 10, 3, 3, 0, 3);
        dueKind(x, 13, 3, 3, 0, 3);
        T.due("node 16", x.kind(16), Due.BAD);
        T.due("node -1", x.kind(-1), Due.BAD);
        T.due("as node 16", x.as(16, 0), Due.BAD);
        T.due("as node -1", x.as(-1, 0), Due.BAD);
        T.due("as kind 6", x.as(0, 6), Due.BAD);
        T.due("as kind -1", x.as(0, -1), Due.BAD);
    }

    private static void dueAsk(BackBay x, int node, int what, int answer, int... trace) {
        T.due("ask " + node + ", " + what, x.ask(node, what), answer);
        for (int i = 0; i <= 16; i++) {
            T.due("trace " + i, x.trace(i), i < trace.length ? trace[i] : Due.NONE);
        }
    }

    private static void ask() {
        BackBay x = new BackBay();
        T.due("no nodes", x.ask(0, 0), Due.BAD);
        Due.read(x, "cell if l 3 r k;cell max min + 7 c - c 1 * c c;");
        dueAsk(x, 0, 0, 5 - 0, 14, 10, 20);
        dueAsk(x, 0, 1, 0, 20);
        dueAsk(x, 1, 0, 1 + 2 * (1 + 100), 11, 10, 22, 21, 20);
        dueAsk(x, 1, 1, 2 * (1 + 100), 22, 21, 20);
        dueAsk(x, 2, 0, 1, 10);
        dueAsk(x, 2, 1, 102, 21, 20);
        dueAsk(x, 5, 0, 2 * 11 + 5 + 11, 13, 12, 10, 23, 20);
        dueAsk(x, 5, 1, 5 + 11, 23, 20);
        dueAsk(x, 7, 0, 6, 12, 10);
        dueAsk(x, 7, 1, 7, 20);
        Due.read(x, "cell c;cell + 1 if 1 2 3 4;");
        dueAsk(x, 3, 0, 5 - 3, 14, 10, 20);
    }

    private static void trace() {
        BackBay x = new BackBay();
        Due.read(x, "cell + 1 c;");
        x.ask(0, 0);
        T.due("trace -1", x.trace(-1), Due.NONE);
        T.due("trace of the most", x.trace(Integer.MAX_VALUE), Due.NONE);
        T.due("what 2", x.ask(0, 2), Due.BAD);
        T.due("what -1", x.ask(0, -1), Due.BAD);
        T.due("node 3", x.ask(3, 0), Due.BAD);
        T.due("node -1", x.ask(-1, 0), Due.BAD);
        T.due("a refused ask leaves the trace", x.trace(0), 12);
        T.due("a refused ask leaves the trace", x.trace(1), 10);
        T.due("and no more", x.trace(2), Due.NONE);
        x.as(2, 0);
        x.kind(2);
        T.due("other calls leave the trace", x.trace(0), 12);
    }

    private static void count() {
        BackBay x = new BackBay();
        T.due("what -1", x.count(-1), Due.BAD);
        T.due("what 8", x.count(8), Due.BAD);
        x.row(1, 0, 0);
        x.row(2, 1, 3);
        x.row(2, 1, 4);
        x.row(5, 2, 2);
        x.drop(1);
        Due.read(x, "cell + c 1;cell l;");
        x.bay(7);
        x.gauge(8, 1, 1, 1);
        x.gauge(0, 1, 1, 1);
        x.gauge(0, 1, 1, 1);
        x.out(0, 1);
        x.out(2, 1);
        x.keep();
        Due.feed(x, "cell c");
        long[] due = {2, 2, 4, 7, 3, 2, 1, 6};
        for (int what = 0; what < due.length; what++) {
            T.due("count " + what, x.count(what), due[what]);
        }
    }
}
