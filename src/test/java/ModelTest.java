import java.lang.reflect.Method;
import java.util.ArrayList;
import java.util.List;
import java.util.Random;

/** All promises: long runs of calls, drawn by fixed seeds, answered by the class and by the model. */
public final class ModelTest {
    private static final Due T = new Due();
    private static final int RUNS = 1200;
    private static final int MOST_CALLS = 512;

    private final Random random;
    private final BackBay bay = new BackBay();
    private final Model model = new Model();
    private final List<String> calls = new ArrayList<>();
    private boolean failed = false;

    private ModelTest(long seed) {
        random = new Random(seed);
    }

    public static void main(String[] args) throws ReflectiveOperationException {
        for (int run = 0; run < RUNS && T.wrong() < 5; run++) {
            new ModelTest(run).run(run);
        }
        T.end();
    }

    private void run(int run) throws ReflectiveOperationException {
        // Some runs draw wild arguments more often than others.
        int wildness = run % 4 == 0 ? 5 : 25;
        while (calls.size() < MOST_CALLS - 50 && !failed) {
            draw(wildness);
        }
    }

    private void draw(int wildness) throws ReflectiveOperationException {
        int what = random.nextInt(100);
        if (what < 4) {
            feedText(random.nextInt(4) == 0 ? broken(text()) : text());
            call("stencils");
            call("fault");
        } else if (what < 8) {
            startAnew();
        } else {
            Method[] methods = Face.methods();
            Method method = methods[random.nextInt(methods.length)];
            // Feeding bytes of no text, or reading or widening too often, would leave little else to see.
            boolean rare = List.of("feed", "stencils", "bay", "drop").contains(method.getName());
            if (!rare || random.nextInt(10) == 0) {
                call(method.getName(), arguments(method, wildness));
            }
        }
    }

    private void call(String name, Object... arguments) throws ReflectiveOperationException {
        if (failed) {
            return;
        }
        Method method = Face.method(name);
        StringBuilder told = new StringBuilder(name);
        for (Object a : arguments) {
            told.append(' ').append(a);
        }
        calls.add(told.toString());
        long got = ((Number) method.invoke(bay, arguments)).longValue();
        Method modelled = Model.class.getMethod(name, method.getParameterTypes());
        long want = ((Number) modelled.invoke(model, arguments)).longValue();
        if (got != want) {
            failed = true;
            T.due(String.join("; ", calls), got, want);
        }
    }

    private void startAnew() throws ReflectiveOperationException {
        int cells = 2 + random.nextInt(9);
        if (random.nextBoolean()) {
            call("bay", cells);
        } else {
            cells = (int) model.count(3);
        }
        int row = random.nextInt(8);
        call("row", row, random.nextInt(3), cells);
        for (int i = 0; i < cells; i++) {
            call("set", row, i, random.nextInt(8) == 0 ? random.nextInt() : random.nextInt(21) - 10);
        }
        call("start", row, 0);
    }

    private Object[] arguments(Method method, int wildness) {
        Class<?>[] types = method.getParameterTypes();
        Object[] arguments = new Object[types.length];
        for (int i = 0; i < types.length; i++) {
            if (types[i] == long.class) {
                arguments[i] = random.nextLong();
            } else {
                arguments[i] = random.nextInt(wildness) == 0 ? wild() : tame(method.getName(), i);
            }
        }
        return arguments;
    }

    private int wild() {
        int[] some = {-1, -2, 1, 2, 3, 6, 7, 8, 9, 10, 11, 12, 20, 21, 40, 41, 300,
            Integer.MAX_VALUE, Integer.MIN_VALUE, Integer.MAX_VALUE - 1, 65536};
        int drawn = random.nextInt(some.length + 4);
        return drawn < some.length ? some[drawn] : random.nextInt();
    }

    /** An argument that mostly fits. */
    private int tame(String call, int i) {
        int cells = (int) model.count(3);
        int nodes = Math.max(1, (int) model.count(2));
        switch (call + i) {
            case "row0": case "set0": case "copy0": case "copy2": case "drop0": case "start0":
                return random.nextInt(8);
            case "row1":
                return random.nextInt(3);
            case "row2":
                return random.nextInt(21);
            case "set1":
                return random.nextInt(12);
            case "set2": case "edge1": case "gauge3": case "push1":
                return random.nextInt(6) == 0 ? random.nextInt() : random.nextInt(41) - 20;
            case "copy1": case "copy3": case "copy4": case "start1":
                return random.nextInt(6);
            case "feed1":
                return 1 + random.nextInt(8);
            case "bay0":
                return 2 + random.nextInt(9);
            case "strip0": case "cell0": case "slope1": case "push0":
                return random.nextInt(cells);
            case "strip1":
                return random.nextInt(10);
            case "edge0": case "out1": case "again2": case "ask1":
                return random.nextInt(2);
            case "cell1":
                return random.nextInt(random.nextBoolean() ? 6 : 41);
            case "gauge0":
                return random.nextInt(random.nextInt(3) == 0 ? 10 : cells);
            case "gauge1":
                return random.nextInt(random.nextInt(3) == 0 ? 21 : 5);
            case "gauge2":
                return random.nextInt(19) - 9;
            case "out0":
                return random.nextInt(Math.max(1, (int) model.count(4)));
            case "wish0": case "slope0":
                return random.nextInt(3);
            case "again0":
                return 1 + random.nextInt(40);
            case "again1":
                return random.nextInt(7);
            case "lay0": case "apart0": case "apart1":
                return random.nextInt(Math.max(1, (int) model.count(6)));
            case "kind0": case "as0": case "ask0":
                return random.nextInt(nodes);
            case "as1":
                return random.nextInt(6);
            case "trace0":
                return random.nextInt(6);
            case "count0":
                return random.nextInt(8);
            default:
                throw new IllegalStateException("no such argument: " + call + i);
        }
    }

    // ---- texts

    private void feedText(String text) throws ReflectiveOperationException {
        for (int at = 0; at < text.length();) {
            int n = Math.min(text.length() - at, random.nextInt(4) == 0 ? 1 + random.nextInt(8) : 8);
            long above = n == 8 ? 0 : random.nextLong() << (8 * n);
            call("feed", above | Due.word(text.substring(at, at + n)), n);
            at += n;
        }
    }

    private String text() {
        StringBuilder text = new StringBuilder();
        int stencils = random.nextInt(12) == 0 ? 4 : 1 + random.nextInt(3);
        for (int i = 0; i < stencils; i++) {
            text.append("cell");
            node(text, 1, random.nextInt(15) == 0 ? 8 : 2 + random.nextInt(5), new int[] {random.nextInt(10) == 0 ? 30 : 12});
            text.append(random.nextBoolean() ? ";" : " ;\n");
        }
        return text.toString();
    }

    private void node(StringBuilder text, int depth, int deepest, int[] left) {
        boolean leaf = depth >= deepest || left[0] <= 0 || random.nextInt(4) == 0;
        left[0]--;
        text.append(random.nextInt(9) == 0 ? "\n" : " ");
        if (leaf) {
            String[] leaves = {"l", "c", "r", "k", "c", "k", String.valueOf(random.nextInt(4)), "0" + random.nextInt(100)};
            text.append(leaves[random.nextInt(leaves.length)]);
            return;
        }
        String[] words = {"+", "-", "*", "min", "max", "if"};
        String word = words[random.nextInt(words.length)];
        text.append(word);
        for (int part = 0; part < (word.equals("if") ? 4 : 2); part++) {
            node(text, depth + 1, deepest, left);
        }
    }

    private String broken(String text) {
        StringBuilder s = new StringBuilder(text);
        for (int times = random.nextInt(3); times >= 0; times--) {
            int at = random.nextInt(s.length());
            String some = ";+-* \nclrkmif0123456789aZ\t\0\u00ff(";
            char c = some.charAt(random.nextInt(some.length()));
            switch (random.nextInt(4)) {
                case 0:
                    s.setCharAt(at, c);
                    break;
                case 1:
                    s.insert(at, c);
                    break;
                case 2:
                    s.setLength(at + 1);
                    break;
                default:
                    if (s.length() > 1) {
                        s.deleteCharAt(at);
                    }
                    break;
            }
        }
        return s.toString();
    }
}
