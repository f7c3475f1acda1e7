/** Sentences of the Terms, ahead of their part 1, that name an edge: numbers, refusals, calls. */
public final class TermsEdgesTest {
    private static final Due T = new Due();
    private static final Twins TWINS = new Twins(T);
    private static final int MOST = Integer.MAX_VALUE;
    private static final int LEAST = Integer.MIN_VALUE;

    public static void main(String[] args) {
        calls();
        sumsGoRound();
        differencesGoRound();
        productsGoRound();
        edgesHave32Bits();
        stripsGoRound();
        wishesGoRound();
        slopesGoRound();
        pushesGoRound();
        oneAboveTheOther();
        wishesOneAboveTheOther();
        fromZeroOn();
        numbersOfRefusals();
        badComesFirst();
        firstFindingInTime();
        changesNothing();
        T.end();
    }

    private static void calls() {
        T.of("An object is used for at most 512 calls after it has been made");
        BackBay x = new BackBay();
        String dear = "cell + + + c c + c c + + c l if c k + r c 1;";
        String text = dear + dear + dear;
        Due.feed(x, text);
        int calls = (text.length() + 7) / 8;
        T.due("nodes of the dearest text", x.stencils(), 57);
        T.due("bay", x.bay(10), 4);
        T.due("gauge", x.gauge(9, 20, 1, 7), 1);
        calls += 3;
        long rest = x.rest();
        long wish = x.wish(0);
        long slope = x.slope(0, 9);
        long cell = x.cell(5, 40);
        calls += 4;
        while (calls < 508) {
            T.due("rest, call " + calls, x.rest(), rest);
            calls++;
        }
        T.due("call 509", x.wish(0), wish);
        T.due("call 510", x.slope(0, 9), slope);
        T.due("call 511", x.cell(5, 40), cell);
        T.due("call 512", x.rest(), rest);
    }

    private static void dueCell(String node, int left, int right, int due) {
        BackBay x = new BackBay();
        Due.begin(x, left, 0, right);
        Due.read(x, "cell " + node + ";");
        T.due(node + " of " + left + " and " + right, x.cell(1, 1), due);
    }

    private static void sumsGoRound() {
        T.of("All numbers of CELLS .. have 32 bits and go round (sums, ..)");
        dueCell("+ l r", MOST, 0, MOST);
        dueCell("+ l r", MOST, 1, LEAST);
        dueCell("+ l r", LEAST, 0, LEAST);
        dueCell("+ l r", LEAST, -1, MOST);
        dueCell("+ l r", MOST, MOST, -2);
        dueCell("+ l r", LEAST, LEAST, 0);
        dueCell("+ l r", LEAST, MOST, -1);
    }

    private static void differencesGoRound() {
        T.of("All numbers of CELLS .. have 32 bits and go round (.. differences ..)");
        dueCell("- l r", MOST, 0, MOST);
        dueCell("- l r", MOST, -1, LEAST);
        dueCell("- l r", LEAST, 0, LEAST);
        dueCell("- l r", LEAST, 1, MOST);
        dueCell("- l r", 0, LEAST, LEAST);
        dueCell("- l r", -1, LEAST, MOST);
        dueCell("- l r", LEAST, MOST, 1);
        dueCell("- l r", MOST, LEAST, -1);
    }

    private static void productsGoRound() {
        T.of("All numbers of CELLS .. have 32 bits and go round (.. products)");
        dueCell("* l r", 46340, 46340, 2147395600);
        dueCell("* l r", 46341, 46341, -2147479015);
        dueCell("* l r", 65536, 32767, 2147418112);
        dueCell("* l r", 65536, 32768, LEAST);
        dueCell("* l r", 65536, 65536, 0);
        dueCell("* l r", 65536, -32768, LEAST);
        dueCell("* l r", LEAST, -1, LEAST);
        dueCell("* l r", LEAST, 2, 0);
        dueCell("* l r", LEAST, LEAST, 0);
        dueCell("* l r", MOST, 2, -2);
        dueCell("* l r", MOST, MOST, 1);
    }

    private static void edgesHave32Bits() {
        T.of("All numbers of .. EDGES .. have 32 bits and go round");
        BackBay x = new BackBay();
        x.bay(2);
        x.edge(0, MOST);
        x.edge(1, LEAST);
        Due.read(x, "cell if l 0 + l 1 - r 1;");
        T.due("the greatest left edge and one", x.cell(0, 1), LEAST);
        T.due("the least right edge less one", x.cell(1, 1), MOST);
        T.due("the left edge told", x.edge(0, LEAST), MOST);
        T.due("the right edge told", x.edge(1, MOST), LEAST);
        T.due("the left edge told", x.edge(0, 0), LEAST);
        T.due("the right edge told", x.edge(1, 0), MOST);
    }

    private static void stripsGoRound() {
        T.of("All numbers of .. STRIPS .. have 32 bits and go round");
        BackBay x = new BackBay();
        x.bay(2);
        Due.read(x, "cell if k 0 2 3;");
        x.gauge(0, 1, 1, 0);
        T.due("wish", x.wish(0), 4);
        T.due("the greatest strips", x.push(0, MOST - 1), 0);
        T.due("one more are below 0", x.push(0, MOST), 9 - 4);
        T.due("the least strips are below 0", x.push(0, LEAST), 9 - 4);
        x.strip(0, 0);
        T.due("wish", x.wish(0), 9);
        T.due("none and the greatest", x.push(0, MOST), 4 - 9);
        T.due("none and the least", x.push(0, LEAST), 0);
    }

    private static long wishOf(int cell, int weight, int wanted, int times) {
        BackBay x = new BackBay();
        Due.begin(x, cell, 0);
        for (int i = 0; i < times; i++) {
            x.gauge(0, 0, weight, wanted);
        }
        return x.wish(0);
    }

    private static void wishesGoRound() {
        T.of("All numbers of .. WISHES .. have 32 bits and go round");
        T.due("the greatest square that fits", wishOf(46340, 1, 0, 1), 2147395600);
        T.due("the first square that does not", wishOf(46341, 1, 0, 1), -2147479015);
        T.due("a square that comes round to 0", wishOf(65536, 1, 0, 1), 0);
        T.due("a difference goes round above", wishOf(MOST, 1, -1, 1), 0);
        T.due("a difference goes round above", wishOf(MOST, 1, -2, 1), 1);
        T.due("a difference goes round above", wishOf(MOST, 1, -3, 1), 4);
        T.due("a difference goes round below", wishOf(LEAST, 1, 1, 1), 1);
        T.due("of the least from the greatest", wishOf(LEAST, 3, MOST, 1), 3);
        T.due("of the greatest from the least", wishOf(MOST, 3, LEAST, 1), 3);
        T.due("a weight goes round", wishOf(46340, 2, 0, 1), -176096);
        T.due("the greatest weight goes round", wishOf(46340, 9, 0, 1), 2146691216);
        T.due("the least weight goes round", wishOf(46340, -9, 0, 1), -2146691216);
        T.due("a sum goes round", wishOf(46340, 1, 0, 2), -176096);
        T.due("a sum goes round below", wishOf(46340, -1, 0, 2), 176096);
        T.due("a sum of twelve", wishOf(46341, 9, 0, 12), 108 * -2147479015);
    }

    private static void slopesGoRound() {
        T.of("All numbers of .. SLOPES have 32 bits and go round");
        BackBay x = new BackBay();
        Due.begin(x, 1 << 30, (1 << 30) - 1);
        x.gauge(1, 0, 1, 0);
        T.due("the greatest double that fits", x.slope(1, 1), MOST - 1);
        x.gauge(0, 0, 1, 0);
        T.due("a double goes round", x.slope(1, 0), LEAST);
        x.gauge(0, 0, 1, 0);
        T.due("a sum comes round to 0", x.slope(1, 0), 0);
        x.gauge(1, 0, 1, (1 << 30) - 2);
        T.due("a sum goes round", x.slope(1, 1), LEAST);
        BackBay y = new BackBay();
        Due.begin(y, 65536, 3);
        Due.read(y, "cell * c * c k;");
        y.gauge(0, 1, 1, -1);
        T.due("a product comes round to 0", y.slope(0, 0), 0);
        T.due("a product goes round", y.slope(1, 0), 2 * 2 * 65536);
        y.gauge(1, 1, 1, 9 - (1 << 29));
        T.due("a product goes round", y.slope(0, 1), 1 << 30);
        T.due("a product goes round", y.slope(1, 1), 6 * (1 << 30));
        BackBay z = new BackBay();
        z.bay(2);
        z.edge(0, LEAST);
        Due.read(z, "cell - 0 l;");
        z.gauge(0, 1, -9, MOST);
        T.due("of an edge, turned about", z.slope(2, 0), 18 * (LEAST - MOST));
    }

    private static void pushesGoRound() {
        T.of("PUSH of a STRIP by h: THE WISH with it so much more (whatever its bounds) less THE WISH.");
        BackBay x = new BackBay();
        Due.begin(x, 46340, 0);
        Due.read(x, "cell * c k;");
        x.gauge(0, 1, 1, 0);
        x.strip(0, 0);
        T.due("the greatest wish less none", x.push(0, 1), 2147395600);
        x.gauge(1, 0, -1, 300);
        T.due("a wish below 0", x.wish(0), -90000);
        T.due("both within 32 bits, the difference, too", x.push(0, 1), 2147395600);
        x.gauge(1, 0, -9, 4000);
        x.gauge(0, 1, -2, 0);
        T.due("a wish below 0", x.wish(0), -90000 - 144000000);
        T.due("the wish goes round", x.push(0, 1), -2147395600);
        x.out(2, 1);
        x.strip(0, 1);
        T.due("a difference goes round", x.push(0, 1), -2147395600 * 3);
    }

    private static void oneAboveTheOther() {
        T.of("they are told one above the other as whole numbers with signs");
        int[] rising = {LEAST, LEAST + 1, -65536, -1, 0, 1, 65536, MOST - 1, MOST};
        for (int a = 0; a < rising.length; a++) {
            for (int b = 0; b < rising.length; b++) {
                int least = rising[Math.min(a, b)];
                int most = rising[Math.max(a, b)];
                dueCell("min l r", rising[a], rising[b], least);
                dueCell("max l r", rising[a], rising[b], most);
                dueCell("if l r 1 2", rising[a], rising[b], a > b ? 1 : 2);
            }
        }
    }

    private static void wishesOneAboveTheOther() {
        BackBay x = new BackBay();
        Due.begin(x, 46341, 0);
        Due.read(x, "cell * c k;");
        x.gauge(0, 1, 1, 0);
        x.strip(0, 0);
        T.due("one more strip goes round to less", x.rest(), 0);
        x.strip(0, 1);
        T.due("the wish below 0", x.wish(0), -2147479015);
        T.due("it is less than both beside it", x.rest(), 1);
        T.due("a slope above 0", x.slope(0, 0), 9266);
        T.due("none is less", x.move(), Due.NONE);
        x.strip(0, 2);
        T.due("the wish above 0", x.wish(0), 18532);
        T.due("a slope above 0", x.slope(0, 0), 18532);
        T.due("one less goes round to less", x.move(), 0);
        T.due("strips", x.strip(0, 1), 1);
    }

    private static void fromZeroOn() {
        T.of("Other numbers go from 0 on.");
        BackBay x = Twins.Made.FULL.make();
        T.due("row 0, item 0", x.set(0, 0, 0), 0);
        T.due("cell 0 behind 0 steps", x.cell(0, 0), -5);
        T.due("gauge 0", x.out(0, 0), 1);
        T.due("stripping 0", x.lay(0), Due.STATE);
        T.due("node 0", x.kind(0), 5);
        T.due("trace 0", x.trace(0), 13);
        TWINS.refused("row -1", y -> y.drop(-1), Due.BAD);
        TWINS.refused(Twins.Made.FILLED, "item -1", y -> y.set(0, -1, 0), Due.PLACE);
        TWINS.refused("cell -1", y -> y.cell(-1, 0), Due.BAD);
        TWINS.refused("-1 steps", y -> y.cell(0, -1), Due.BAD);
        TWINS.refused("gauge -1", y -> y.out(-1, 0), Due.BAD);
        TWINS.refused("stripping -1", y -> y.lay(-1), Due.BAD);
        TWINS.refused("node -1", y -> y.kind(-1), Due.BAD);
        TWINS.onlyTells(Twins.Made.FULL, "trace -1", y -> y.trace(-1));
        T.due("trace -1", x.trace(-1), Due.NONE);
    }

    private static void numbersOfRefusals() {
        T.of("NOT less 1 BAD, 2 STATE, 3 FULL, and NOT less 10 less the FINDING");
        BackBay x = Twins.Made.FILLED.make();
        T.due("BAD", x.count(8), -9000000000000000001L);
        T.due("STATE", x.lay(0), -9000000000000000002L);
        T.due("FULL", Twins.Made.FULL.make().keep(), -9000000000000000003L);
        T.due("1 NULL (a ROW that is missing)", x.drop(7), -9000000000000000011L);
        T.due("status", x.status(), 1);
        T.due("2 PLACE (no such place of a ROW)", x.set(0, 5, 1), -9000000000000000012L);
        T.due("status", x.status(), 2);
        T.due("3 KIND (a NODE that is not that)", x.as(0, 1), -9000000000000000013L);
        T.due("status", x.status(), 3);
        T.due("4 SIZE (fewer than none)", x.row(0, 0, -1), -9000000000000000014L);
        T.due("status", x.status(), 4);
        T.due("5 STORE (ROWS of two LANES)", x.copy(0, 0, 1, 0, 1), -9000000000000000015L);
        T.due("status", x.status(), 5);
    }

    private static void badComesFirst() {
        T.of("Refusals are answers, the first of these that fits: BAD .., STATE .., FULL .., then FINDINGS");
        TWINS.refused("BAD ahead of SIZE", x -> x.row(8, 0, -1), Due.BAD);
        TWINS.refused("BAD ahead of SIZE", x -> x.row(0, 3, -1), Due.BAD);
        TWINS.refused("BAD ahead of NULL", x -> x.copy(7, 0, 8, 0, 1), Due.BAD);
        TWINS.refused("BAD ahead of NULL", x -> x.copy(8, 0, 7, 0, 1), Due.BAD);
        TWINS.refused("BAD ahead of PLACE", x -> x.set(8, -1, 0), Due.BAD);
        TWINS.refused("BAD ahead of PLACE", x -> x.copy(0, -1, 8, -1, -1), Due.BAD);
        TWINS.refused("BAD ahead of PLACE", x -> x.start(8, -1), Due.BAD);
        TWINS.refused("BAD ahead of KIND", x -> x.as(0, 6), Due.BAD);
        TWINS.refused(Twins.Made.FILLED, "BAD ahead of STATE", x -> x.apart(0, 2), Due.BAD);
        TWINS.refused(Twins.Made.FILLED, "BAD ahead of STATE", x -> x.apart(2, 0), Due.BAD);
        TWINS.refused(Twins.Made.FULL, "BAD ahead of FULL", x -> x.feed(0, 9), Due.BAD);
        TWINS.refused(Twins.Made.FULL, "BAD ahead of FULL", x -> x.feed(0, 0), Due.BAD);
        TWINS.refused(Twins.Made.FULL, "BAD ahead of FULL", x -> x.gauge(10, 0, 0, 0), Due.BAD);
        TWINS.refused(Twins.Made.FULL, "BAD ahead of FULL", x -> x.gauge(0, 21, 0, 0), Due.BAD);
        TWINS.refused(Twins.Made.FULL, "BAD ahead of FULL", x -> x.gauge(0, 0, 10, 0), Due.BAD);
    }

    private static void firstFindingInTime() {
        T.of("then FINDINGS, of several the first in time");
        TWINS.refused(Twins.Made.FILLED, "NULL ahead of PLACE", x -> x.set(7, -1, 0), Due.NULL);
        TWINS.refused(Twins.Made.FILLED, "NULL ahead of PLACE", x -> x.start(7, -1), Due.NULL);
        TWINS.refused(Twins.Made.FILLED, "NULL of a ahead of PLACE", x -> x.copy(7, -1, 0, -1, -1), Due.NULL);
        TWINS.refused(Twins.Made.FILLED, "NULL of b ahead of PLACE", x -> x.copy(0, -1, 7, -1, -1), Due.NULL);
        TWINS.refused(Twins.Made.FILLED, "NULL of both", x -> x.copy(6, 0, 7, 0, 0), Due.NULL);
        TWINS.refused(Twins.Made.FILLED, "STORE ahead of PLACE of a", x -> x.copy(0, -1, 1, 0, 1), Due.STORE);
        TWINS.refused(Twins.Made.FILLED, "STORE ahead of PLACE of b", x -> x.copy(0, 0, 1, -1, 1), Due.STORE);
        TWINS.refused(Twins.Made.FILLED, "STORE ahead of PLACE of n", x -> x.copy(0, 0, 1, 0, -1), Due.STORE);
        TWINS.refused(Twins.Made.FILLED, "STORE ahead of an end", x -> x.copy(0, 5, 1, 20, 1), Due.STORE);
    }

    private static void changesNothing() {
        T.of("What is refused, or found, changes nothing but status().");
        TWINS.refused(Twins.Made.FULL, "BAD", x -> x.bay(11), Due.BAD);
        TWINS.refused(Twins.Made.FULL, "STATE", x -> x.lay(0), Due.STATE);
        TWINS.refused(Twins.Made.FULL, "FULL", x -> x.gauge(0, 0, 0, 0), Due.FULL);
        TWINS.refused(Twins.Made.FILLED, "NULL", x -> x.copy(2, 0, 7, 0, 5), Due.NULL);
        TWINS.refused(Twins.Made.FULL, "PLACE", x -> x.copy(2, 0, 5, 18, 5), Due.PLACE);
        TWINS.refused(Twins.Made.FULL, "KIND", x -> x.as(0, 4), Due.KIND);
        TWINS.refused(Twins.Made.FULL, "SIZE", x -> x.row(2, 0, -1), Due.SIZE);
        TWINS.refused(Twins.Made.FULL, "STORE", x -> x.copy(0, 0, 2, 0, 5), Due.STORE);
    }
}
