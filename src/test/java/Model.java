import java.util.ArrayList;
import java.util.List;
import java.util.regex.Matcher;
import java.util.regex.Pattern;

/**
 * The document once more, in another way than the class: rows are Java's own arrays and findings
 * Java's own exceptions, nodes are objects with bodies of their own, and slopes are carried forward
 * with every number instead of being gone back for.
 */
public final class Model {
    private static final long NOT = BackBay.NOT;
    private static final long BAD = NOT - 1;
    private static final long STATE = NOT - 2;
    private static final long FULL = NOT - 3;
    private static final int NONE = BackBay.NONE;

    // ---- numbers with their slopes by 10 strips, 10 starts and 2 edges

    private record Sloped(int worth, int[] slopes) {
        static Sloped of(int worth) {
            return new Sloped(worth, new int[22]);
        }

        static Sloped of(int worth, int by) {
            Sloped s = of(worth);
            s.slopes[by] = 1;
            return s;
        }

        Sloped plus(Sloped o, int sign) {
            Sloped s = of(worth + sign * o.worth);
            for (int i = 0; i < 22; i++) {
                s.slopes[i] = slopes[i] + sign * o.slopes[i];
            }
            return s;
        }

        Sloped times(Sloped o) {
            Sloped s = of(worth * o.worth);
            for (int i = 0; i < 22; i++) {
                s.slopes[i] = slopes[i] * o.worth + worth * o.slopes[i];
            }
            return s;
        }
    }

    // ---- nodes

    private static class Seeing {
        Sloped left;
        Sloped own;
        Sloped right;
        Sloped strips;
        int knots;
    }

    private abstract class Node {
        String word = "";
        int number;
        final List<Node> parts = new ArrayList<>();

        abstract Sloped work(Seeing s);

        int nodes() {
            int n = 1;
            for (Node p : parts) {
                n += p.nodes();
            }
            return n;
        }

        int size() {
            trace.add(10);
            return nodes();
        }

        int mark() {
            trace.add(20);
            return number;
        }

        Sloped part(int i, Seeing s) {
            return parts.get(i).work(s);
        }
    }

    private class Leaf extends Node {
        Sloped work(Seeing s) {
            return Sloped.of(Integer.parseInt(word));
        }

        int mark() {
            trace.add(21);
            return super.mark() + 100;
        }
    }

    private class Seen extends Leaf {
        Sloped work(Seeing s) {
            return word.equals("l") ? s.left : word.equals("c") ? s.own : word.equals("r") ? s.right : s.strips;
        }

        int size() {
            trace.add(11);
            int size = super.size();
            return size + mark();
        }

        int mark() {
            trace.add(22);
            return super.mark() * 2;
        }
    }

    private class Pair extends Node {
        Sloped work(Seeing s) {
            Sloped a = part(0, s);
            Sloped b = part(1, s);
            return word.equals("*") ? a.times(b) : a.plus(b, word.equals("+") ? 1 : -1);
        }

        int size() {
            trace.add(12);
            return super.size() * 2;
        }
    }

    private class Chosen extends Pair {
        Sloped work(Seeing s) {
            Sloped a = part(0, s);
            Sloped b = part(1, s);
            if (a.worth == b.worth) {
                s.knots++;
                return a;
            }
            return a.worth < b.worth == word.equals("min") ? a : b;
        }

        int size() {
            trace.add(13);
            int size = super.size();
            return size + mark();
        }

        int mark() {
            trace.add(23);
            return super.mark() + nodes();
        }
    }

    private class Fork extends Node {
        Sloped work(Seeing s) {
            Sloped a = part(0, s);
            Sloped b = part(1, s);
            if (a.worth == b.worth) {
                s.knots++;
            }
            return a.worth > b.worth ? part(2, s) : part(3, s);
        }

        int size() {
            trace.add(14);
            int size = super.size();
            return size - mark();
        }
    }

    // ---- the state

    private final Object[] rows = new Object[8];
    private int status = 0;
    private final StringBuilder tape = new StringBuilder();
    private List<Node> stencils = new ArrayList<>();
    private List<Node> nodes = new ArrayList<>();
    private int fault = 0;
    private int[] start = new int[4];
    private int[] strips = {1, 1, 1, 1};
    private final int[] edges = new int[2];
    private final List<int[]> gauges = new ArrayList<>();
    private final List<int[]> strippings = new ArrayList<>();
    private final List<Integer> trace = new ArrayList<>();

    // ---- rows

    private interface Work {
        long run();
    }

    private long finding(Work work) {
        try {
            long answer = work.run();
            status = 0;
            return answer;
        } catch (NullPointerException e) {
            status = 1;
        } catch (IndexOutOfBoundsException e) {
            status = 2;
        } catch (ClassCastException e) {
            status = 3;
        } catch (NegativeArraySizeException e) {
            status = 4;
        } catch (ArrayStoreException e) {
            status = 5;
        }
        return NOT - 10 - status;
    }

    private static boolean noRow(int row) {
        return row < 0 || row > 7;
    }

    private static int length(Object row) {
        return java.lang.reflect.Array.getLength(row);
    }

    private static int item(Object row, int i) {
        return java.lang.reflect.Array.getInt(row, i);
    }

    public long row(int row, int lane, int n) {
        if (noRow(row) || lane < 0 || lane > 2 || n > 20) {
            return BAD;
        }
        return finding(() -> {
            rows[row] = lane == 0 ? new byte[n] : lane == 1 ? new short[n] : new int[n];
            return n;
        });
    }

    public long set(int row, int i, int v) {
        if (noRow(row)) {
            return BAD;
        }
        return finding(() -> {
            Object r = rows[row];
            if (r instanceof byte[] b) {
                b[i] = (byte) v;
            } else if (r instanceof short[] s) {
                s[i] = (short) v;
            } else {
                ((int[]) r)[i] = v;
            }
            return item(r, i);
        });
    }

    public long copy(int a, int i, int b, int j, int n) {
        if (noRow(a) || noRow(b)) {
            return BAD;
        }
        return finding(() -> {
            System.arraycopy(rows[a], i, rows[b], j, n);
            return n;
        });
    }

    public long drop(int row) {
        if (noRow(row)) {
            return BAD;
        }
        return finding(() -> {
            int had = length(rows[row]);
            rows[row] = null;
            return had;
        });
    }

    // ---- stencils

    public long feed(long w, int n) {
        if (n < 1 || n > 8) {
            return BAD;
        }
        if (tape.length() + n > 300) {
            return FULL;
        }
        byte[] bytes = java.nio.ByteBuffer.allocate(8).putLong(w).array();
        for (int i = 8 - n; i < 8; i++) {
            tape.append((char) (bytes[i] & 255));
        }
        return tape.length();
    }

    private static final Pattern TOKEN = Pattern.compile("[a-z]+|[0-9]+|[^ \n]", Pattern.DOTALL);

    /** A text is read with a pile of how many parts are still due at each depth. */
    public long stencils() {
        String text = tape.toString();
        tape.setLength(0);
        List<Node> newStencils = new ArrayList<>();
        List<Node> newNodes = new ArrayList<>();
        List<Node> open = new ArrayList<>();
        Matcher m = TOKEN.matcher(text);
        // 0: a stencil's word is due (or the end, behind one), 1: a node, 2: the semicolon.
        int due = 0;
        int nodesOfOne = 0;
        while (m.find()) {
            String word = m.group();
            int fails = 0;
            if (due == 0) {
                fails = !word.equals("cell") ? 1 : newStencils.size() == 3 ? 3 : 0;
                due = 1;
                nodesOfOne = 0;
            } else if (due == 2) {
                fails = word.equals(";") ? 0 : 1;
                due = 0;
            } else {
                Node node = nodeOf(word);
                nodesOfOne++;
                fails = node == null ? 1 : nodesOfOne > 20 || open.size() >= 6 ? 3 : 0;
                if (fails == 0) {
                    node.number = newNodes.size();
                    newNodes.add(node);
                    if (open.isEmpty()) {
                        newStencils.add(node);
                    } else {
                        open.get(open.size() - 1).parts.add(node);
                    }
                    open.add(node);
                    while (!open.isEmpty() && open.get(open.size() - 1).parts.size() == partsDue(open.get(open.size() - 1))) {
                        open.remove(open.size() - 1);
                    }
                    due = open.isEmpty() ? 2 : 1;
                }
            }
            if (fails != 0) {
                fault = fails;
                return NOT - 100 - m.start();
            }
        }
        if (due != 0 || newStencils.isEmpty()) {
            fault = 1;
            return NOT - 100 - text.length();
        }
        stencils = newStencils;
        nodes = newNodes;
        return nodes.size();
    }

    private static int partsDue(Node n) {
        return n instanceof Fork ? 4 : n instanceof Pair ? 2 : 0;
    }

    private Node nodeOf(String word) {
        Node node = null;
        if (word.matches("[lcrk]")) {
            node = new Seen();
        } else if (word.matches("[0-9]{1,4}")) {
            node = new Leaf();
        } else if (word.matches("[-+*]")) {
            node = new Pair();
        } else if (word.matches("min|max")) {
            node = new Chosen();
        } else if (word.equals("if")) {
            node = new Fork();
        }
        if (node != null) {
            node.word = word;
        }
        return node;
    }

    public int fault() {
        return fault;
    }

    // ---- the bay

    public long bay(int n) {
        if (n < 2 || n > 10) {
            return BAD;
        }
        int had = start.length;
        start = new int[n];
        strips = new int[n];
        java.util.Arrays.fill(strips, 1);
        return had;
    }

    public long start(int row, int i) {
        if (noRow(row)) {
            return BAD;
        }
        return finding(() -> {
            int[] begun = new int[start.length];
            Object r = rows[row];
            length(r);
            for (int cell = 0; cell < begun.length; cell++) {
                begun[cell] = item(r, i + cell);
            }
            start = begun;
            return begun.length;
        });
    }

    private boolean noCell(int cell) {
        return cell < 0 || cell >= start.length;
    }

    public long strip(int cell, int v) {
        if (noCell(cell) || v < 0 || v > 9) {
            return BAD;
        }
        int was = strips[cell];
        strips[cell] = v;
        return was;
    }

    public long edge(int side, int v) {
        if (side != 0 && side != 1) {
            return BAD;
        }
        int was = edges[side];
        edges[side] = v;
        return was;
    }

    private int knots;

    /** The rows of cells behind 0, 1, .. steps; leaves the knots of all of them. */
    private List<Sloped[]> run(int[] by, int steps) {
        knots = 0;
        int n = start.length;
        Sloped[] row = new Sloped[n];
        for (int cell = 0; cell < n; cell++) {
            row[cell] = Sloped.of(start[cell], 10 + cell);
        }
        List<Sloped[]> all = new ArrayList<>();
        all.add(row);
        for (int step = 0; step < steps; step++) {
            for (Node stencil : stencils) {
                Sloped[] next = new Sloped[n];
                for (int cell = 0; cell < n; cell++) {
                    Seeing s = new Seeing();
                    s.left = cell == 0 ? Sloped.of(edges[0], 20) : row[cell - 1];
                    s.own = row[cell];
                    s.right = cell == n - 1 ? Sloped.of(edges[1], 21) : row[cell + 1];
                    s.strips = Sloped.of(by[cell], cell);
                    next[cell] = stencil.work(s);
                    knots += s.knots;
                }
                row = next;
            }
            all.add(row);
        }
        return all;
    }

    public long cell(int cell, int steps) {
        if (noCell(cell) || steps < 0 || steps > 40) {
            return BAD;
        }
        return run(strips, steps).get(steps)[cell].worth;
    }

    // ---- wishes, slopes

    public long gauge(int cell, int step, int weight, int wanted) {
        if (cell < 0 || cell > 9 || step < 0 || step > 20 || weight < -9 || weight > 9) {
            return BAD;
        }
        if (gauges.size() == 12) {
            return FULL;
        }
        gauges.add(new int[] {cell, step, weight, wanted, 0});
        return gauges.size();
    }

    public long out(int gauge, int out) {
        if (gauge < 0 || gauge >= gauges.size() || out != 0 && out != 1) {
            return BAD;
        }
        gauges.get(gauge)[4] = out;
        return 1;
    }

    private List<int[]> counting() {
        List<int[]> c = new ArrayList<>();
        for (int[] g : gauges) {
            if (g[4] == 0 && g[0] < start.length) {
                c.add(g);
            }
        }
        return c;
    }

    private int last() {
        int last = 0;
        for (int[] g : counting()) {
            last = Math.max(last, g[1]);
        }
        return last;
    }

    private Sloped wishBy(int[] by) {
        List<Sloped[]> all = run(by, last());
        Sloped wish = Sloped.of(0);
        for (int[] g : counting()) {
            Sloped off = all.get(g[1])[g[0]].plus(Sloped.of(g[3]), -1);
            wish = wish.plus(Sloped.of(g[2]).times(off.times(off)), 1);
        }
        return wish;
    }

    public long wish(int what) {
        if (what == 0) {
            return wishBy(strips).worth;
        }
        if (what == 1) {
            return last();
        }
        if (what == 2) {
            run(strips, last());
            return knots;
        }
        return BAD;
    }

    public long slope(int what, int i) {
        int most = what == 2 ? 2 : start.length;
        if (what < 0 || what > 2 || i < 0 || i >= most) {
            return BAD;
        }
        return wishBy(strips).slopes[10 * what + i];
    }

    private int[] with(int cell, int more) {
        int[] by = strips.clone();
        by[cell] += more;
        return by;
    }

    public long push(int cell, int h) {
        if (noCell(cell)) {
            return BAD;
        }
        return wishBy(with(cell, h)).worth - wishBy(strips).worth;
    }

    public long again(int n, int k, int what) {
        if (n < 1 || n > 40 || k < 0 || k > 6 || what < 0 || what > 1) {
            return BAD;
        }
        int[][] f = new int[7][41];
        int[][] where = new int[7][41];
        for (int places = 0; places <= k; places++) {
            for (int s = 1; s <= n; s++) {
                f[places][s] = s * (s - 1) / 2;
                where[places][s] = NONE;
                if (places > 0 && s > 1) {
                    f[places][s] = Integer.MAX_VALUE;
                    for (int m = s - 1; m >= 1; m--) {
                        int steps = m + f[places - 1][s - m] + f[places][m];
                        if (steps <= f[places][s]) {
                            f[places][s] = steps;
                            where[places][s] = m;
                        }
                    }
                }
            }
        }
        return what == 0 ? f[k][n] : where[k][n];
    }

    // ---- strips

    private boolean less(int cell, int more, int now) {
        int by = strips[cell] + more;
        return by >= 0 && by <= 9 && wishBy(with(cell, more)).worth < now;
    }

    public int move() {
        Sloped wish = wishBy(strips);
        List<Integer> order = new ArrayList<>();
        for (int cell = 0; cell < start.length; cell++) {
            if (wish.slopes[cell] != 0) {
                order.add(cell);
            }
        }
        order.sort((a, b) -> Long.compare(Math.abs((long) wish.slopes[b]), Math.abs((long) wish.slopes[a])));
        for (int cell : order) {
            int more = wish.slopes[cell] > 0 ? -1 : 1;
            if (less(cell, more, wish.worth)) {
                strips[cell] += more;
                return cell;
            }
        }
        return NONE;
    }

    public int rest() {
        int now = wishBy(strips).worth;
        for (int cell = 0; cell < start.length; cell++) {
            if (less(cell, 1, now) || less(cell, -1, now)) {
                return 0;
            }
        }
        return 1;
    }

    public long keep() {
        if (strippings.size() == 6) {
            return FULL;
        }
        strippings.add(strips.clone());
        return strippings.size() - 1;
    }

    private boolean noStripping(int stripping) {
        return stripping < 0 || stripping >= strippings.size();
    }

    public long lay(int stripping) {
        if (noStripping(stripping)) {
            return BAD;
        }
        if (strippings.get(stripping).length != strips.length) {
            return STATE;
        }
        strips = strippings.get(stripping).clone();
        return 1;
    }

    public long apart(int a, int b) {
        if (noStripping(a) || noStripping(b)) {
            return BAD;
        }
        if (strippings.get(a).length != strips.length || strippings.get(b).length != strips.length) {
            return STATE;
        }
        List<Sloped[]> one = run(strippings.get(a), last());
        List<Sloped[]> other = run(strippings.get(b), last());
        long most = 0;
        long where = NONE;
        for (int step = last(); step >= 0; step--) {
            for (int cell = start.length - 1; cell >= 0; cell--) {
                long far = (long) one.get(step)[cell].worth - other.get(step)[cell].worth;
                far = far < 0 ? -far : far;
                if (far > 0 && far >= most) {
                    most = far;
                    where = 16L * step + cell;
                }
            }
        }
        return where;
    }

    // ---- asked

    private boolean noNode(int node) {
        return node < 0 || node >= nodes.size();
    }

    private static final List<Class<?>> KINDS =
            List.of(Node.class, Leaf.class, Seen.class, Pair.class, Chosen.class, Fork.class);

    public long kind(int node) {
        return noNode(node) ? BAD : KINDS.indexOf(nodes.get(node).getClass());
    }

    public long as(int node, int kind) {
        if (noNode(node) || kind < 0 || kind > 5) {
            return BAD;
        }
        return finding(() -> ((Node) KINDS.get(kind).cast(nodes.get(node))).nodes());
    }

    public long ask(int node, int what) {
        if (noNode(node) || what < 0 || what > 1) {
            return BAD;
        }
        trace.clear();
        return what == 0 ? nodes.get(node).size() : nodes.get(node).mark();
    }

    public int trace(int i) {
        return i < 0 || i >= Math.min(16, trace.size()) ? NONE : trace.get(i);
    }

    public long count(int what) {
        long there = 0;
        for (Object r : rows) {
            there += r == null ? 0 : 1;
        }
        long out = 0;
        for (int[] g : gauges) {
            out += g[4];
        }
        long[] counts = {there, stencils.size(), nodes.size(), start.length, gauges.size(), out,
            strippings.size(), tape.length()};
        return what < 0 || what > 7 ? BAD : counts[what];
    }

    public int status() {
        return status;
    }
}
