/** Promises 6 to 8: the tape, its reading, and faults. */
public final class TextTest {
    private static final Due T = new Due();

    public static void main(String[] args) {
        feed();
        wellFormed();
        misplaced();
        tooMany();
        leastFaultOfAToken();
        stencilsStay();
        T.end();
    }

    private static void feed() {
        BackBay x = new BackBay();
        T.due("n 0", x.feed(0, 0), Due.BAD);
        T.due("n 9", x.feed(0, 9), Due.BAD);
        T.due("n -1", x.feed(0, -1), Due.BAD);
        T.due("nothing came", x.count(7), 0);
        T.due("one byte", x.feed(0x4141414141414163L, 1), 1);
        T.due("eight bytes, the highest first", x.feed(0x656c6c2063203b20L, 8), 9);
        T.due("the lowest bytes alone came, in order", x.stencils(), 1);
        T.due("the tape is empty then", x.count(7), 0);
        T.due("empty at the most", Due.read(x, ""), BackBay.NOT - 100);
        for (int i = 0; i < 37; i++) {
            x.feed(0x2020202020202020L, 8);
        }
        T.due("296 bytes", x.count(7), 296);
        T.due("5 are too many", x.feed(0x2020202020L, 5), Due.FULL);
        T.due("BAD comes ahead of FULL", x.feed(0, 9), Due.BAD);
        T.due("none came", x.count(7), 296);
        T.due("4 fit", x.feed(0x20202020L, 4), 300);
        T.due("1 is too many", x.feed(0x20, 1), Due.FULL);
        T.due("the end is behind all bytes", x.stencils(), BackBay.NOT - 400);
        T.due("a fault empties the tape, too", x.count(7), 0);
    }

    private static void dueNodes(String text, long nodes, long stencils) {
        BackBay x = new BackBay();
        T.due(text, Due.read(x, text), nodes);
        T.due("nodes of " + text, x.count(2), nodes);
        T.due("stencils of " + text, x.count(1), stencils);
        T.due("fault of " + text, x.fault(), 0);
    }

    private static void wellFormed() {
        dueNodes("cell c;", 1, 1);
        dueNodes("  cell\n\nc ;\n", 1, 1);
        dueNodes("cell 9999;cell 0000;cell 0;", 3, 3);
        dueNodes("cell+c-l*r k;", 7, 1);
        dueNodes("cell+1c;", 3, 1);
        dueNodes("cell 7;cell+l9;", 4, 2);
        dueNodes("cell7;", 1, 1);
        dueNodes("cell if l c r k;", 5, 1);
        dueNodes("cell min max l c 3;cell if + 1 2 - 1 2 * 1 2 c;", 16, 2);
        dueNodes("cell + + + + + l l l l l l;", 11, 1);
        // A stencil's nodes are always odd in number, so 19 is the most that can be had.
        String nineteen = "cell + + + c c + c c + + c c if c c + c c c;";
        dueNodes(nineteen, 19, 1);
        dueNodes(nineteen + nineteen + nineteen, 57, 3);
    }

    private static void dueFault(String text, int place, int fault) {
        BackBay x = new BackBay();
        T.due(text, Due.read(x, text), BackBay.NOT - 100 - place);
        T.due("fault of " + text, x.fault(), fault);
        T.due("nodes of " + text, x.count(2), 0);
    }

    private static void misplaced() {
        dueFault("", 0, 1);
        dueFault(" \n ", 3, 1);
        dueFault("cell", 4, 1);
        dueFault("cell  ", 6, 1);
        dueFault("cell c", 6, 1);
        dueFault("cell c \n", 8, 1);
        dueFault("cell + c", 8, 1);
        dueFault("c;", 0, 1);
        dueFault(" ;", 1, 1);
        dueFault("cell ;", 5, 1);
        dueFault("cell cell c;", 5, 1);
        dueFault("cell c c;", 7, 1);
        dueFault("cell c;;", 7, 1);
        dueFault("cell c; c;", 8, 1);
        dueFault("cell c;cell", 11, 1);
        dueFault("cells c;", 0, 1);
        dueFault("cel c;", 0, 1);
        dueFault("cell x;", 5, 1);
        dueFault("cell minn c c;", 5, 1);
        dueFault("cell ma c c;", 5, 1);
        dueFault("cell iff c c c c;", 5, 1);
        dueFault("cell i c c c c;", 5, 1);
        dueFault("cell cr;", 5, 1);
        dueFault("cell 12345;", 5, 1);
        dueFault("cell 00001;", 5, 1);
        dueFault("cell c 1;", 7, 1);
        dueFault("cell\tc;", 4, 1);
        dueFault("cell\rc;", 4, 1);
        dueFault("cell C;", 5, 1);
        dueFault("Cell c;", 0, 1);
        dueFault("cell c,", 6, 1);
        dueFault("cell c;\0", 7, 1);
        dueFault("cell c\u00e3;", 6, 1);
        dueFault("cell \u00ff;", 5, 1);
        dueFault("cell `;", 5, 1);
        dueFault("cell {;", 5, 1);
        dueFault("cell /;", 5, 1);
        dueFault("cell :;", 5, 1);
        dueFault("cell min c;", 10, 1);
        dueFault("cell if c c c;", 13, 1);
        dueFault("cell if c c c c c;", 16, 1);
    }

    private static void tooMany() {
        dueFault("cell c;cell c;cell c;cell c;", 21, 3);
        dueFault("cell c;cell c;cell c; cell", 22, 3);
        dueFault("cell + + + + + + c c c c c c c;", 17, 3);
        dueFault("cell + c + c + c + c + c + c c;", 27, 3);
        dueFault("cell if if c c c c if c c c c if c c c c if c c c c;", 50, 3);
        dueFault("cell c;cell if if c c c c if c c c c if c c c c if c c c c;", 57, 3);
    }

    private static void leastFaultOfAToken() {
        dueFault("cell c;cell c;cell c;;", 21, 1);
        dueFault("cell c;cell c;cell c;cel c;", 21, 1);
        dueFault("cell + + + + + + ; c c c c c c;", 17, 1);
        dueFault("cell + + + + + + 12345 c c c c c c;", 17, 1);
        dueFault("cell + + + + + + cell c c c c c c;", 17, 1);
        dueFault("cell + + + + + +", 16, 1);
        dueFault("cell if if c c c c if c c c c if c c c c if c c c x;", 50, 1);
    }

    private static void stencilsStay() {
        BackBay x = new BackBay();
        Due.begin(x, 1, 2);
        Due.read(x, "cell + c 1;cell * c 2;");
        T.due("cell", x.cell(0, 1), 4);
        T.due("a fault", Due.read(x, "cell c;cell q;"), BackBay.NOT - 112);
        T.due("fault", x.fault(), 1);
        T.due("stencils stay", x.count(1), 2);
        T.due("nodes stay", x.count(2), 6);
        T.due("a step stays", x.cell(0, 1), 4);
        T.due("kinds stay", x.kind(3), 3);
        T.due("another fault", Due.read(x, "cell c;cell c;cell c;cell c;"), BackBay.NOT - 121);
        T.due("fault 3", x.fault(), 3);
        T.due("read well", Due.read(x, "cell 5;"), 1);
        T.due("those there were are gone", x.count(1), 1);
        T.due("a new step", x.cell(1, 1), 5);
        T.due("the latest fault is told still", x.fault(), 3);
        T.due("an older text once more", Due.read(x, "cell + c 1;"), 3);
        T.due("its step", x.cell(1, 2), 4);
    }
}
