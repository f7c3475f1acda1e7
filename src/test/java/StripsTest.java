/** Promises 20 to 24: moves, rest, and strippings. */
public final class StripsTest {
    private static final Due T = new Due();

    public static void main(String[] args) {
        moveBySize();
        moveWithinBounds();
        moveOnlyIfLess();
        leastNumberIsGreatest();
        rest();
        keepAndLay();
        apart();
        T.end();
    }

    private static void moveBySize() {
        BackBay x = new BackBay();
        T.due("nothing to move", x.move(), Due.NONE);
        Due.begin(x, 0, 0, 0);
        Due.read(x, "cell + c k;");
        x.gauge(0, 1, 1, 5);
        x.gauge(1, 1, 2, 5);
        // Slopes -8 and -16, then -8 and -12, then both -8: the lesser number.
        T.due("the steeper", x.move(), 1);
        T.due("the steeper still", x.move(), 1);
        T.due("strips by now", x.strip(1, 3), 3);
        T.due("alike: the lesser number", x.move(), 0);
        T.due("strips by now", x.strip(0, 2), 2);
        T.due("the steeper", x.move(), 1);
        x.strip(0, 9);
        x.strip(1, 8);
        T.due("one less down a slope above 0", x.move(), 1);
        T.due("strips by now", x.strip(1, 7), 7);
        T.due("alike: the lesser number", x.move(), 0);
        T.due("strips by now", x.strip(0, 8), 8);
        int moves = 0;
        while (moves < 100 && x.move() != Due.NONE) {
            moves++;
        }
        T.due("moves till rest", moves, 5);
        T.due("the wish then", x.wish(0), 0);
        T.due("at rest", x.rest(), 1);
    }

    private static void moveWithinBounds() {
        BackBay x = new BackBay();
        Due.begin(x, 0, 0);
        Due.read(x, "cell k;");
        x.gauge(0, 1, 9, 100);
        x.gauge(1, 1, 1, 3);
        x.strip(0, 9);
        T.due("the steeper has no more", x.move(), 1);
        T.due("strips stay", x.strip(0, 8), 9);
        T.due("it has one more", x.move(), 0);
        T.due("nine", x.strip(0, 9), 9);
        BackBay y = new BackBay();
        Due.begin(y, 0, 0);
        Due.read(y, "cell k;");
        y.gauge(0, 1, 9, -100);
        y.strip(0, 1);
        T.due("to none", y.move(), 0);
        T.due("no less than none", y.move(), Due.NONE);
        T.due("none", y.strip(0, 0), 0);
    }

    private static void moveOnlyIfLess() {
        BackBay x = new BackBay();
        Due.begin(x, 0, 0);
        Due.read(x, "cell * k k;");
        x.gauge(0, 1, 1, 5);
        x.strip(0, 2);
        T.due("slope", x.slope(0, 0), -8);
        T.due("one more makes it no less", x.move(), Due.NONE);
        T.due("strips stay", x.strip(0, 2), 2);
        x.gauge(1, 1, 1, 2);
        x.strip(1, 1);
        x.gauge(1, 0, 1, 0);
        // Cell 1: 1 to 4 instead of 2 makes 1 to 4: no less either.
        T.due("nor here", x.move(), Due.NONE);
        x.gauge(1, 1, 1, 4);
        // Cell 1: slope 2 * (1 - 2) * 2 + 2 * (1 - 4) * 2 = -16.
        T.due("here it does", x.move(), 1);
        T.due("strips", x.strip(1, 2), 2);
        BackBay y = new BackBay();
        Due.begin(y, 0, 0);
        Due.read(y, "cell * k k;");
        y.gauge(0, 1, 1, 5);
        y.gauge(1, 1, 1, 1);
        y.strip(0, 2);
        y.gauge(1, 0, 0, 0);
        y.strip(1, 0);
        T.due("no slope, no move", y.move(), Due.NONE);
        T.due("but no rest", y.rest(), 0);
        BackBay z = new BackBay();
        Due.begin(z, 0, 0);
        Due.read(z, "cell * k + k c;");
        z.gauge(0, 1, 9, 5);
        z.strip(0, 2);
        z.gauge(1, 1, 1, 1);
        z.strip(1, 2);
        // Slopes -72, of no help, and 24.
        T.due("the steepest is of no help, the next is", z.move(), 1);
        T.due("strips", z.strip(1, 1), 1);
        BackBay even = new BackBay();
        Due.begin(even, 0, 0);
        Due.read(even, "cell * 2 k;");
        even.gauge(0, 1, 1, 3);
        even.strip(0, 1);
        T.due("slope", even.slope(0, 0), -4);
        T.due("as great a wish is not less", even.move(), Due.NONE);
        T.due("and that is rest", even.rest(), 1);
    }

    private static void leastNumberIsGreatest() {
        BackBay x = new BackBay();
        Due.begin(x, 32768, 32768);
        Due.read(x, "cell * c k;");
        x.gauge(0, 1, 1, 1);
        x.gauge(1, 1, 1, 0);
        T.due("a great slope", x.slope(0, 0), 2147418112);
        T.due("the least number", x.slope(0, 1), Integer.MIN_VALUE);
        T.due("the least number is the greatest", x.move(), 1);
        T.due("it is not above 0: one more", x.strip(1, 2), 2);
    }

    private static void rest() {
        BackBay x = new BackBay();
        T.due("nothing wished", x.rest(), 1);
        Due.begin(x, 0, 0);
        Due.read(x, "cell k;");
        x.gauge(1, 1, 1, 4);
        T.due("one more helps", x.rest(), 0);
        x.strip(1, 5);
        T.due("one less helps", x.rest(), 0);
        x.strip(1, 4);
        T.due("nothing helps", x.rest(), 1);
        x.gauge(0, 1, 1, 100);
        x.strip(0, 9);
        T.due("what helps is beyond nine", x.rest(), 1);
        x.out(1, 1);
        x.gauge(0, 1, 1, -100);
        x.strip(0, 0);
        T.due("what helps is below none", x.rest(), 1);
        T.due("rest changes nothing", x.strip(0, 0), 0);
        T.due("rest changes nothing", x.strip(1, 4), 4);
    }

    private static void keepAndLay() {
        BackBay x = new BackBay();
        x.bay(3);
        x.strip(0, 4);
        x.strip(2, 9);
        T.due("keep", x.keep(), 0);
        x.strip(0, 5);
        T.due("keep", x.keep(), 1);
        x.strip(2, 0);
        T.due("lay", x.lay(0), 1);
        T.due("strips", x.strip(0, 4), 4);
        T.due("strips", x.strip(1, 1), 1);
        T.due("strips", x.strip(2, 9), 9);
        T.due("no stripping 2", x.lay(2), Due.BAD);
        T.due("no stripping -1", x.lay(-1), Due.BAD);
        x.bay(4);
        T.due("kept of three cells", x.lay(1), Due.STATE);
        T.due("BAD comes ahead of STATE", x.lay(2), Due.BAD);
        T.due("strips stay", x.strip(0, 1), 1);
        for (int i = 2; i < 6; i++) {
            T.due("keep", x.keep(), i);
        }
        T.due("the seventh", x.keep(), Due.FULL);
        T.due("six", x.count(6), 6);
        x.bay(3);
        T.due("of three cells again", x.lay(1), 1);
        T.due("strips", x.strip(0, 5), 5);
        T.due("strips", x.strip(2, 9), 9);
    }

    private static void apart() {
        BackBay x = new BackBay();
        Due.begin(x, 1, 1, 1);
        Due.read(x, "cell + c k;");
        x.keep();
        x.strip(1, 3);
        x.strip(2, 3);
        x.keep();
        T.due("no gauge: the start alone", x.apart(0, 1), Due.NONE);
        x.gauge(0, 4, 1, 0);
        T.due("most at the last step, of two cells the first", x.apart(0, 1), 16 * 4 + 1);
        T.due("the other way about", x.apart(1, 0), 16 * 4 + 1);
        T.due("from itself", x.apart(1, 1), Due.NONE);
        Due.read(x, "cell + k * 0 c;");
        T.due("of several steps the first", x.apart(0, 1), 16 + 1);
        Due.read(x, "cell - 0 k;");
        T.due("below 0", x.apart(0, 1), 16 + 1);
        x.strip(2, 4);
        x.keep();
        T.due("more in a later cell", x.apart(0, 2), 16 + 2);
        T.due("no stripping 3", x.apart(0, 3), Due.BAD);
        T.due("no stripping -1", x.apart(-1, 0), Due.BAD);
        x.bay(2);
        x.keep();
        T.due("one of another number of cells", x.apart(3, 0), Due.STATE);
        T.due("the other one", x.apart(0, 3), Due.STATE);
        T.due("both", x.apart(0, 1), Due.STATE);
        T.due("BAD comes ahead of STATE", x.apart(0, 4), Due.BAD);
        T.due("of this number", x.apart(3, 3), Due.NONE);
        BackBay y = new BackBay();
        Due.begin(y, 1 << 30, 1 << 30);
        Due.read(y, "cell * c k;");
        y.gauge(0, 1, 0, 0);
        y.keep();
        y.strip(0, 0);
        y.strip(1, 2);
        y.keep();
        T.due("as whole numbers", y.apart(0, 1), 16 + 1);
        T.due("strips stay", y.strip(1, 2), 2);
    }
}
