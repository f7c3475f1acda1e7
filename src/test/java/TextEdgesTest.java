/** Sentences on texts that name an edge: TEXTS and FAULTS in the Terms, promises 6 to 8. */
public final class TextEdgesTest {
    private static final Due T = new Due();
    private static final Twins TWINS = new Twins(T);

    public static void main(String[] args) {
        tapeOf300();
        everyByteAsANode();
        everyByteAhead();
        everyByteBetween();
        everyByteBehind();
        everyByteBehindAName();
        everyByteBehindANumber();
        names();
        numbers();
        threeStencils();
        atLeastOneStencil();
        inPlaceOfThoseThereWere();
        partsOfNodes();
        twentyNodes();
        twentyNodesOfEachStencil();
        sixBelowOneAnother();
        sixBelowOnEachWay();
        numberedThroughAll();
        firstToken();
        leastOfOneToken();
        leastOfEveryByte();
        atTheEnd();
        feedOrder();
        feedRefused();
        feedFull();
        emptyThen();
        stencilsStay();
        latestFault();
        T.end();
    }

    private static final int WELL = -1;

    /** Reads the text by a new object; place WELL if it has no fault, and fault is how many nodes then. */
    private static void dueRead(String text, int place, int fault) {
        BackBay x = new BackBay();
        boolean well = place == WELL;
        String told = text.replace("\n", "\\n");
        T.due(told, Due.read(x, text), well ? fault : BackBay.NOT - 100 - place);
        T.due("fault of " + told, x.fault(), well ? 0 : fault);
        T.due("nodes of " + told, x.count(2), well ? fault : 0);
        T.due("the tape behind " + told, x.count(7), 0);
    }

    private static String blanks(int n) {
        return " ".repeat(n);
    }

    private static void tapeOf300() {
        T.of("THE TAPE has at most 300 bytes");
        dueRead(blanks(293) + "cell c;", WELL, 1);
        dueRead("cell c;" + blanks(293), WELL, 1);
        dueRead(blanks(294) + "cell c", 300, 1);
        dueRead(blanks(292) + "cell c;;", 299, 1);
        BackBay x = new BackBay();
        Due.feed(x, blanks(293) + "cell c");
        T.due("299 bytes", x.count(7), 299);
        T.due("the 300th", x.feed(';', 1), 300);
        T.due("the 301st", x.feed(' ', 1), Due.FULL);
        T.due("300 are read", x.stencils(), 1);
        T.due("there is place again", x.feed(' ', 1), 1);
    }

    /** What the text of a byte at a place in turn comes to. */
    private static void everyByteAsANode() {
        T.of("TOKENS: NAMES (letters a to z), NUMBERS (figures, 4 at most), SIGNS ; + - * bytes 32 and 10 between.");
        for (int b = 0; b < 256; b++) {
            String text = "cell " + (char) b + ";";
            if ("lcrk0123456789".indexOf(b) >= 0) {
                dueRead(text, WELL, 1);
            } else if ("+-* \n".indexOf(b) >= 0) {
                dueRead(text, 6, 1);
            } else {
                dueRead(text, 5, 1);
            }
        }
    }

    private static void everyByteAhead() {
        for (int b = 0; b < 256; b++) {
            boolean between = b == 32 || b == 10;
            dueRead((char) b + "cell c;", between ? WELL : 0, 1);
        }
    }

    private static void everyByteBetween() {
        for (int b = 0; b < 256; b++) {
            String text = "cell" + (char) b + "c;";
            if (b == 32 || b == 10) {
                dueRead(text, WELL, 1);
            } else if (b >= 'a' && b <= 'z') {
                dueRead(text, 0, 1);
            } else if (b >= '0' && b <= '9') {
                dueRead(text, 5, 1);
            } else if ("+-*".indexOf(b) >= 0) {
                dueRead(text, 6, 1);
            } else {
                dueRead(text, 4, 1);
            }
        }
    }

    private static void everyByteBehind() {
        for (int b = 0; b < 256; b++) {
            boolean between = b == 32 || b == 10;
            dueRead("cell c;" + (char) b, between ? WELL : 7, 1);
        }
    }

    private static void everyByteBehindAName() {
        for (int b = 0; b < 256; b++) {
            String text = "cell + l" + (char) b + "c;";
            if (b == 32 || b == 10) {
                dueRead(text, WELL, 3);
            } else if (b >= 'a' && b <= 'z') {
                dueRead(text, 7, 1);
            } else if (b >= '0' && b <= '9') {
                dueRead(text, 9, 1);
            } else if ("+-*".indexOf(b) >= 0) {
                dueRead(text, 10, 1);
            } else {
                dueRead(text, 8, 1);
            }
        }
    }

    private static void everyByteBehindANumber() {
        for (int b = 0; b < 256; b++) {
            String text = "cell + 123" + (char) b + "c;";
            if (b == 32 || b == 10) {
                dueRead(text, WELL, 3);
            } else if (b >= 'a' && b <= 'z') {
                // A name of two letters, of which the second is the c.
                dueRead(text, 10, 1);
            } else if (b >= '0' && b <= '9') {
                dueRead(text, WELL, 3);
            } else if ("+-*".indexOf(b) >= 0) {
                dueRead(text, 12, 1);
            } else {
                dueRead(text, 10, 1);
            }
        }
    }

    private static void names() {
        T.of("NAMES (letters a to z)");
        for (char letter = 'a'; letter <= 'z'; letter++) {
            dueRead("cell" + letter + " c;", 0, 1);
            dueRead("cell c" + letter + ";", 5, 1);
            dueRead("cell min" + letter + " c c;", 5, 1);
            dueRead("cell " + letter + "max c c;", 5, 1);
            dueRead("cell if" + letter + " c c c c;", 5, 1);
        }
        dueRead("cel l c;", 0, 1);
        dueRead("cell mi n c c;", 5, 1);
        dueRead("cell ma c c;", 5, 1);
        dueRead("cell i f c c c c;", 5, 1);
        dueRead("cell min c c;", WELL, 3);
        dueRead("cell max c c;", WELL, 3);
        dueRead("cell if c c c c;", WELL, 5);
        dueRead("CELL c;", 0, 1);
        dueRead("cell MIN c c;", 5, 1);
        dueRead("cell minc c;", 5, 1);
        dueRead("cell min\nc\nc\n;\n", WELL, 3);
    }

    private static void dueNumber(String number, int due) {
        BackBay x = new BackBay();
        T.due("a number " + number, Due.read(x, "cell " + number + ";"), 1);
        T.due("its worth", x.cell(0, 1), due);
    }

    private static void numbers() {
        T.of("NUMBERS (figures, 4 at most)");
        dueNumber("0", 0);
        dueNumber("9", 9);
        dueNumber("10", 10);
        dueNumber("999", 999);
        dueNumber("1000", 1000);
        dueNumber("9999", 9999);
        dueNumber("0000", 0);
        dueNumber("0009", 9);
        dueNumber("0123", 123);
        dueRead("cell 10000;", 5, 1);
        dueRead("cell 00000;", 5, 1);
        dueRead("cell 99999;", 5, 1);
        dueRead("cell 123456789;", 5, 1);
        dueRead("cell 12 34;", 8, 1);
        dueRead("cell + 9999 9999;", WELL, 3);
        dueRead("cell + 9999 99999;", 12, 1);
        dueRead("cell +9999c;", WELL, 3);
        dueRead("cell " + "7".repeat(295), 5, 1);
        dueRead("cell -1;", 7, 1);
    }

    private static void threeStencils() {
        T.of("text: 'cell' node ';' { 'cell' node ';' }: STENCILS, 3 at most");
        dueRead("cell c;", WELL, 1);
        dueRead("cell c;cell l;", WELL, 2);
        dueRead("cell c;cell l;cell r;", WELL, 3);
        T.of("3 the 4th STENCIL (its word)");
        dueRead("cell c;cell l;cell r;cell k;", 21, 3);
        dueRead("cell c;cell l;cell r;\n \ncell", 24, 3);
        dueRead("cell c;cell l;cell r;cell ; +", 21, 3);
        dueRead("cell c;cell l;cell r;cell k;cell k;", 21, 3);
        dueRead("cell c;cell l;cell r;c", 21, 1);
        dueRead("cell c;cell l;cell;cell k;", 18, 1);
    }

    private static void atLeastOneStencil() {
        T.of("text: 'cell' node ';' { 'cell' node ';' } (an empty one)");
        dueRead("", 0, 1);
        dueRead(" ", 1, 1);
        dueRead("\n", 1, 1);
        dueRead(blanks(300), 300, 1);
        dueRead("cell;", 4, 1);
        dueRead(";", 0, 1);
        dueRead("c;", 0, 1);
        dueRead("1;", 0, 1);
        dueRead("+ c c;", 0, 1);
    }

    private static void inPlaceOfThoseThereWere() {
        T.of("STENCILS, 3 at most, in place of those there were");
        BackBay x = new BackBay();
        Due.begin(x, 1, 2);
        T.due("three", Due.read(x, "cell + c 1;cell * c 2;cell - c 3;"), 9);
        T.due("a step", x.cell(0, 1), 1);
        T.due("one", Due.read(x, "cell + c 5;"), 3);
        T.due("stencils", x.count(1), 1);
        T.due("nodes", x.count(2), 3);
        T.due("a step", x.cell(0, 1), 6);
        T.due("no node 3", x.kind(3), Due.BAD);
        T.due("three again", Due.read(x, "cell c;cell c;cell + c c;"), 5);
        T.due("stencils", x.count(1), 3);
        T.due("a step", x.cell(1, 1), 4);
    }

    private static void partsOfNodes() {
        T.of("node: '+' node node | .. | 'if' node node node node | 'l' | 'c' | 'r' | 'k' | NUMBER");
        for (String pair : new String[] {"+", "-", "*", "min", "max"}) {
            int end = 5 + pair.length();
            dueRead("cell " + pair + ";", end, 1);
            dueRead("cell " + pair + " c;", end + 2, 1);
            dueRead("cell " + pair + " c 1;", WELL, 3);
            dueRead("cell " + pair + " c 1 l;", end + 5, 1);
        }
        dueRead("cell if;", 7, 1);
        dueRead("cell if c;", 9, 1);
        dueRead("cell if c c;", 11, 1);
        dueRead("cell if c c c;", 13, 1);
        dueRead("cell if c c c c;", WELL, 5);
        dueRead("cell if c c c c c;", 16, 1);
        for (String leaf : new String[] {"l", "c", "r", "k", "7"}) {
            dueRead("cell " + leaf + ";", WELL, 1);
            dueRead("cell " + leaf + " c;", 7, 1);
        }
    }

    /** A node with so many nodes (an odd number), as flat as may be. */
    private static String tree(int nodes) {
        if (nodes == 1) {
            return "c";
        }
        int left = (nodes - 1) / 2;
        left -= 1 - left % 2;
        return "+ " + tree(left) + " " + tree(nodes - 1 - left);
    }

    private static void twentyNodes() {
        T.of("A STENCIL has at most 20 NODES; 3 .. the 21st NODE of one");
        // A stencil that is well formed has an odd number of nodes.
        for (int nodes = 1; nodes <= 19; nodes += 2) {
            dueRead("cell " + tree(nodes) + ";", WELL, nodes);
        }
        String of21 = "cell " + tree(21) + ";";
        dueRead(of21, of21.length() - 2, 3);
        String of23 = "cell " + tree(23) + ";";
        dueRead(of23, placeOfNode(of23, 21), 3);
        // Behind 20 nodes: what is no node cannot stand there, a node is the 21st.
        String of20 = of21.substring(0, of21.length() - 2);
        dueRead(of20, of20.length(), 1);
        dueRead(of20 + ";", of20.length(), 1);
        dueRead(of20 + "l", of20.length(), 3);
        dueRead(of20 + "1", of20.length(), 3);
        dueRead(of20 + "+", of20.length(), 3);
        dueRead(of20 + "if", of20.length(), 3);
        dueRead(of20 + "min c", of20.length(), 3);
        dueRead(of20 + "cell", of20.length(), 1);
        // Behind 19 nodes the 20th is taken.
        String of19 = of20.substring(0, of20.length() - 2);
        dueRead(of19 + "+", of19.length() + 1, 1);
        dueRead(of19 + "+;", of19.length() + 1, 1);
        dueRead(of19 + "+ c", of19.length() + 2, 3);
    }

    private static int placeOfNode(String text, int number) {
        int at = 0;
        for (int i = 0; i < number; i++) {
            at = text.indexOf(' ', at) + 1;
        }
        return at;
    }

    private static void twentyNodesOfEachStencil() {
        T.of("A STENCIL has at most 20 NODES (each one)");
        String nineteen = "cell " + tree(19) + ";";
        dueRead(nineteen + nineteen, WELL, 38);
        dueRead(nineteen + nineteen + nineteen, WELL, 57);
        String of21 = "cell " + tree(21) + ";";
        dueRead("cell c;" + of21, 7 + of21.length() - 2, 3);
        dueRead(nineteen + nineteen + of21, 2 * nineteen.length() + of21.length() - 2, 3);
    }

    private static void sixBelowOneAnother() {
        T.of("and 6 below one another (the topmost is the first); 3 .. the 7th below one another");
        for (String pair : new String[] {"+", "-", "*", "min", "max"}) {
            String chain = "";
            String leaves = " c";
            for (int below = 1; below <= 5; below++) {
                chain += " " + pair;
                leaves += " c";
                dueRead("cell" + chain + leaves + ";", WELL, 2 * below + 1);
            }
            chain += " " + pair;
            int place = 4 + chain.length() + 1;
            dueRead("cell" + chain + leaves + " c;", place, 3);
            dueRead("cell" + chain + " " + pair, place, 3);
            dueRead("cell" + chain + " if", place, 3);
            dueRead("cell" + chain + " 7", place, 3);
            dueRead("cell" + chain, place - 1, 1);
            dueRead("cell" + chain + " ;", place, 1);
        }
    }

    private static void sixBelowOnEachWay() {
        // The 6th below one another as each part of an if, then the 7th; five forks would be 21 nodes.
        String[] ahead = {"", " c", " c c", " c c c"};
        String[] behind = {" c c c", " c c", " c", ""};
        for (int part = 0; part < 4; part++) {
            String begin = "cell + + + + if" + ahead[part];
            String end = behind[part] + " c c c c;";
            dueRead(begin + " c" + end, WELL, 13);
            dueRead(begin + " + c c" + end, begin.length() + 3, 3);
        }
        dueRead("cell + c + c + c + c + c c;", WELL, 11);
        dueRead("cell + c + c + c + c + c + c c;", 27, 3);
        dueRead("cell + + + + + c c c c c + + + + c c c c c;", WELL, 19);
        dueRead("cell + + + + + c c c c c + + + + + c c c c c c;", 35, 3);
        dueRead("cell c;cell + + + + + c c c c c c;cell + + + + + c c c c c c;", WELL, 23);
        dueRead("cell c;cell + + + + + + c", 24, 3);
    }

    private static void numberedThroughAll() {
        T.of("NODES are numbered 0, 1, .. as they stand, through all STENCILS.");
        BackBay x = new BackBay();
        String text = "cell " + tree(19) + ";";
        Due.read(x, "cell 1;cell if l 2 - 3 r k;" + text);
        int[] kinds = {1, 5, 2, 1, 3, 1, 2, 2, 3};
        for (int node = 0; node < kinds.length; node++) {
            T.due("kind of " + node, x.kind(node), kinds[node]);
        }
        T.due("the last node", x.kind(26), 2);
        T.due("its mark tells its number", x.ask(26, 1), 2 * (26 + 100));
        T.due("none behind it", x.kind(27), Due.BAD);
        T.due("nodes", Due.read(x, text + text + text), 57);
        T.due("the last node", x.ask(56, 1), 2 * (56 + 100));
        T.due("none behind it", x.ask(57, 1), Due.BAD);
        T.due("the first of the second stencil", x.as(19, 3), 19);
        T.due("the first of the third stencil", x.as(38, 3), 19);
    }

    private static void firstToken() {
        T.of("FAULTS, the first TOKEN that has one (its first byte)");
        dueRead("cell xyz;cell;", 5, 1);
        dueRead("cell c;  cells c;", 9, 1);
        dueRead("cell c\n\n\nc;", 9, 1);
        dueRead("cell c; 123456;", 8, 1);
        dueRead("cell + + + + + + c ! ;", 17, 3);
        dueRead("cell ! + + + + + + c;", 5, 1);
        dueRead("cell c;cell c;cell ?;cell c;", 19, 1);
    }

    private static void leastOfOneToken() {
        T.of("FAULTS .. of one TOKEN the least: 1 it cannot stand there, or is none");
        dueRead("cell + + + + + + x", 17, 1);
        dueRead("cell + + + + + + 12345", 17, 1);
        dueRead("cell + + + + + + cell", 17, 1);
        dueRead("cell + + + + + + ;", 17, 1);
        dueRead("cell + + + + + + ?", 17, 1);
        dueRead("cell + + + + + + c", 17, 3);
        String of20 = "cell " + tree(21) + ";";
        of20 = of20.substring(0, of20.length() - 2);
        dueRead(of20 + "x", of20.length(), 1);
        dueRead(of20 + "12345", of20.length(), 1);
        dueRead("cell c;cell c;cell c;cells", 21, 1);
        dueRead("cell c;cell c;cell c;;", 21, 1);
        dueRead("cell c;cell c;cell c;7", 21, 1);
    }

    private static void leastOfEveryByte() {
        // Where any node is the 7th below one another, or the 21st: what begins none cannot stand there.
        String of20 = "cell " + tree(21) + ";";
        of20 = of20.substring(0, of20.length() - 2);
        for (String ahead : new String[] {"cell + + + + + + ", of20}) {
            for (int b = 0; b < 256; b++) {
                String text = ahead + (char) b;
                boolean node = "lcrk+-*0123456789".indexOf(b) >= 0;
                boolean between = b == 32 || b == 10;
                dueRead(text, between ? text.length() : ahead.length(), node ? 3 : 1);
            }
        }
    }

    private static void atTheEnd() {
        T.of("FAULTS .. 1 .. (the end: how many bytes there are)");
        String text = "cell if c + l 1 r k;cell k;";
        for (int bytes = 0; bytes < text.length(); bytes++) {
            String begin = text.substring(0, bytes);
            boolean inName = bytes >= 1 && bytes <= 3 || bytes >= 21 && bytes <= 23;
            if (bytes == 20) {
                dueRead(begin, WELL, 7);
            } else if (inName) {
                // A name that is cut short is no token.
                dueRead(begin, bytes <= 3 ? 0 : 20, 1);
            } else if (bytes == 6) {
                dueRead(begin, 5, 1);
            } else {
                dueRead(begin, bytes, 1);
                dueRead(begin + "  \n", bytes + 3, 1);
            }
        }
        dueRead(text, WELL, 8);
    }

    private static void feedOrder() {
        T.of("The lowest n bytes of w (1 to 8), the highest of them first, come behind the tape: how many it has.");
        String text = "cell 73;";
        for (int n = 1; n <= 8; n++) {
            BackBay x = new BackBay();
            // The bytes above the n lowest are no part of it, whatever they are.
            long above = n == 8 ? 0 : -1L << (8 * n);
            T.due(n + " bytes", x.feed(above | Due.word(text.substring(0, n)), n), n);
            for (int at = n; at < 8; at++) {
                T.due("byte " + at, x.feed(0x7f00L | text.charAt(at), 1), at + 1);
            }
            T.due("the text", x.stencils(), 1);
            T.due("its worth", x.cell(0, 1), 73);
        }
        BackBay y = new BackBay();
        T.due("bytes of 255", y.feed(-1L, 8), 8);
        T.due("bytes of 0", y.feed(0L, 8), 16);
        T.due("bytes of 128", y.feed(0x8080808080808080L, 8), 24);
        T.due("none of them is a token", y.stencils(), BackBay.NOT - 100);
    }

    private static void feedRefused() {
        T.of("feed: BAD: n");
        for (int n : Due.outside(1, 8)) {
            TWINS.refused(n + " bytes", x -> x.feed(Due.word("c;"), n), Due.BAD);
        }
    }

    private static void feedFull() {
        T.of("feed: FULL: none comes.");
        for (int n = 1; n <= 8; n++) {
            int bytes = n;
            TWINS.refused(Twins.Made.FULL, n + " bytes", x -> x.feed(Due.word("cell c; "), bytes), Due.FULL);
            for (int place = 0; place <= 8; place++) {
                BackBay x = new BackBay();
                Due.feed(x, "cell c;" + blanks(293 - place));
                T.due(n + " bytes for " + place, x.feed(Due.word("cell k; "), n), n <= place ? 300 - place + n : Due.FULL);
                T.due("bytes", x.count(7), n <= place ? 300 - place + n : 300 - place);
            }
        }
        BackBay y = new BackBay();
        Due.feed(y, "cell c;" + blanks(289));
        T.due("8 for 4", y.feed(Due.word("????????"), 8), Due.FULL);
        T.due("none came", y.stencils(), 1);
    }

    private static void emptyThen() {
        T.of("The tape, empty then, is read: how many NODES there are.");
        BackBay x = new BackBay();
        Due.feed(x, "cell c;");
        T.due("read", x.stencils(), 1);
        T.due("empty", x.count(7), 0);
        T.due("an empty tape", x.stencils(), BackBay.NOT - 100);
        T.due("the nodes stay", x.count(2), 1);
        Due.feed(x, "cell ?");
        T.due("a fault", x.stencils(), BackBay.NOT - 105);
        T.due("empty", x.count(7), 0);
        T.due("the next text begins anew", Due.read(x, "cell + c c;"), 3);
    }

    private static void stencilsStay() {
        T.of("NOT less 100 less the place of a FAULT: the STENCILS stay.");
        String[] faulty = {"", "cell", "cell ;", "cell c", "cell k;cell", "cell k;cell k;cell k;cell",
            "cell + + + + + + c", "cell k;cell " + tree(21)};
        for (String text : faulty) {
            BackBay x = new BackBay();
            Due.begin(x, 1, 2);
            Due.read(x, "cell + c 5;cell if c 6 r 9;");
            x.gauge(0, 1, 1, 0);
            T.holds("a fault of " + text, Due.read(x, text) <= BackBay.NOT - 100);
            T.due("stencils", x.count(1), 2);
            T.due("nodes", x.count(2), 8);
            T.due("a step", x.cell(0, 1), 9);
            T.due("a step", x.cell(1, 1), 0);
            T.due("kind", x.kind(3), 5);
            T.due("size", x.as(3, 5), 5);
            T.due("no other node", x.kind(8), Due.BAD);
        }
        BackBay y = new BackBay();
        T.due("a fault without stencils", Due.read(y, "cell c;cell"), BackBay.NOT - 111);
        T.due("there are none still", y.count(1), 0);
        T.due("nor nodes", y.count(2), 0);
        T.due("a step changes nothing", y.cell(0, 1), 0);
    }

    private static void latestFault() {
        T.of("The number of the latest FAULT; 0 before one.");
        BackBay x = new BackBay();
        T.due("before one", x.fault(), 0);
        Due.read(x, "cell c;");
        T.due("before one, read well", x.fault(), 0);
        Due.read(x, "cell + + + + + + c");
        T.due("the latest", x.fault(), 3);
        Due.read(x, "cell c");
        T.due("the latest", x.fault(), 1);
        Due.read(x, "cell c;cell c;cell c;cell c;");
        T.due("the latest", x.fault(), 3);
        Due.read(x, "cell c;");
        T.due("the latest still, read well", x.fault(), 3);
        x.feed(0, 9);
        x.kind(99);
        T.due("no refusal is a fault", x.fault(), 3);
    }
}
