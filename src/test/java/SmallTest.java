import java.util.ArrayList;
import java.util.List;

/**
 * The class against the model for all programs of a few statements: every span of them, and again after each
 * extraction, after each second extraction, and after the first method has been inlined behind that.
 */
public final class SmallTest {
    private static final int MOST = 3;
    /** Between these the small programs are set, so that there is something around them that can be left and read. */
    private static final String[][] AROUND = {{"", ""}, {"c=b;d=1;*a{", "#d;}<c;"}};
    private static final int[][] ARGUMENTS = {{0, 2}, {1, 2}};
    private static long answers;
    private static int programs;
    private static int wrong;

    private final SpanLifts x = new SpanLifts();
    private final Model y = new Model();
    private final StringBuilder done = new StringBuilder();

    private SmallTest(String text) {
        done.append(text);
        for (char c : text.toCharArray()) {
            x.type(c);
            y.type(c);
        }
        due("reads", x.reads(), y.reads());
    }

    private static List<String> leaves(boolean inLoop) {
        return inLoop ? List.of("c=1;", "d=c;", "#d;", "!;", "^;") : List.of("c=1;", "d=c;", "#d;", "<c;");
    }

    /** All blocks of so many statements. */
    private static List<String> blocks(int size, boolean inLoop) {
        List<String> all = new ArrayList<>();
        if (size == 0) {
            all.add("");
        }
        for (int first = 1; first <= size; first++) {
            for (String statement : statements(first, inLoop)) {
                for (String rest : blocks(size - first, inLoop)) {
                    all.add(statement + rest);
                }
            }
        }
        return all;
    }

    /** All statements with so many statements, those inside included. */
    private static List<String> statements(int size, boolean inLoop) {
        List<String> all = new ArrayList<>();
        if (size == 1) {
            all.addAll(leaves(inLoop));
        }
        for (String block : blocks(size - 1, inLoop)) {
            all.add("?a{" + block + "}");
        }
        for (int first = 0; first < size; first++) {
            for (String block : blocks(first, inLoop)) {
                for (String other : blocks(size - 1 - first, inLoop)) {
                    all.add("?a{" + block + "}{" + other + "}");
                }
            }
        }
        for (String block : blocks(size - 1, true)) {
            all.add("*a{" + block + "}");
        }
        return all;
    }

    private long due(String call, long got, long want) {
        answers++;
        if (got != want && wrong++ < 10) {
            System.out.println(done + ": " + call + " answered " + got + ", due is " + want);
        }
        return want;
    }

    private void oneSpan(int i, int j) {
        String ij = i + ", " + j + ", ";
        long exits = due("span(" + ij + "0)", x.span(i, j, 0), y.span(i, j, 0));
        if (exits < 0) {
            return;
        }
        for (int what = 1; what <= 3; what++) {
            due("span(" + ij + what + ")", x.span(i, j, what), y.span(i, j, what));
        }
        for (int k = 0; k < 3; k++) {
            due("hands(" + ij + "0, " + k + ")", x.hands(i, j, 0, k), y.hands(i, j, 0, k));
            due("hands(" + ij + "1, " + k + ")", x.hands(i, j, 1, k), y.hands(i, j, 1, k));
        }
        for (int exit = 1; exit <= 8; exit *= 2) {
            for (int v = 2; v <= 3 && (exits & exit) != 0; v++) {
                due("live(" + ij + exit + ", " + v + ")", x.live(i, j, exit, v), y.live(i, j, exit, v));
            }
        }
        long taken = due("alike(" + ij + "0, 0)", x.alike(i, j, 0, 0), y.alike(i, j, 0, 0));
        for (int k = 0; k < taken; k++) {
            due("alike(" + ij + "1, " + k + ")", x.alike(i, j, 1, k), y.alike(i, j, 1, k));
        }
    }

    private void all() {
        int count = y.places().size();
        for (int i = 0; i < count; i++) {
            due("sure(" + i + ", 2)", x.sure(i, 2), y.sure(i, 2));
            due("sure(" + i + ", 3)", x.sure(i, 3), y.sure(i, 3));
            for (int j = i; j < count; j++) {
                oneSpan(i, j);
            }
        }
        due("digest()", x.digest(), y.digest());
        for (int[] values : ARGUMENTS) {
            due("runs(" + values[0] + ", " + values[1] + ")", x.runs(values[0], values[1]), y.runs(values[0], values[1]));
            for (int what = 0; what <= 4; what++) {
                due("ran(" + what + ", 0)", x.ran(what, 0), y.ran(what, 0));
            }
        }
    }

    /** Extracts each span in turn, so many times one after the other. */
    private void changes(int times) {
        int count = y.places().size();
        int length = done.length();
        for (int i = 0; i < count; i++) {
            for (int j = i; j < count; j++) {
                if (due("lifts(" + i + ", " + j + ", 1)", x.lifts(i, j, 1), y.lifts(i, j, 1)) < 0) {
                    continue;
                }
                done.append(" lifts(").append(i).append(", ").append(j).append(", 1)");
                all();
                if (times > 1) {
                    changes(times - 1);
                } else {
                    done.append(" settles(0)");
                    due("settles(0)", x.settles(0), y.settles(0));
                    all();
                    due("back()", x.back(), y.back());
                }
                due("back()", x.back(), y.back());
                done.setLength(length);
            }
        }
    }

    public static void main(String[] args) {
        int most = args.length > 0 ? Integer.parseInt(args[0]) : MOST;
        for (String[] around : AROUND) {
            boolean inLoop = !around[0].isEmpty();
            for (int size = 0; size <= (inLoop ? most - 1 : most); size++) {
                for (String block : blocks(size, inLoop)) {
                    SmallTest test = new SmallTest(around[0] + block + around[1]);
                    test.all();
                    test.changes(2);
                    programs++;
                }
            }
        }
        System.out.println(programs + " programs, " + answers + " answers, " + wrong + " not as due");
        if (wrong != 0 || programs < 1000) {
            System.exit(1);
        }
    }
}
