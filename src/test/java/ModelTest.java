/** Compares the class with the model, on programs and calls that are made by chance from fixed seeds. */
public final class ModelTest {
    private static final int ROUNDS = 600;
    private static int wrong = 0;
    private static long checked = 0;
    private static int lifted = 0, twinned = 0, settled = 0;

    private SpanLifts x = new SpanLifts();
    private Model y = new Model();
    private final long seed;
    private final Programs programs;
    private final StringBuilder log = new StringBuilder();

    private ModelTest(long seed) {
        this.seed = seed;
        programs = new Programs(seed);
    }

    private long due(String call, long got, long want) {
        checked++;
        log.append(call).append(" = ").append(want).append('\n');
        if (got != want && wrong++ < 5) {
            System.out.println("seed " + seed + ", text \"" + y.text + "\": " + call + " answered " + got + ", due is " + want);
            System.out.println(log);
        }
        return want;
    }

    private void take(String text) {
        due("clear()", x.clear(), y.clear());
        for (char c : text.toCharArray()) x.type(c);
        for (char c : text.toCharArray()) y.type(c);
        log.append("text ").append(text).append('\n');
        due("reads()", x.reads(), y.reads());
    }

    private void statements() {
        int n = y.places().size();
        for (int k = 0; k < n; k++) {
            for (int w = 0; w <= 6; w++) due("statement(" + k + ", " + w + ")", x.statement(k, w), y.statement(k, w));
            for (int i = 0; i <= 12; i++) due("sign(" + k + ", " + i + ")", x.sign(k, i), y.sign(k, i));
            for (int v = 0; v <= 7; v++) due("sure(" + k + ", " + v + ")", x.sure(k, v), y.sure(k, v));
        }
    }

    private void oneSpan(int i, int j) {
        String ij = i + ", " + j;
        for (int w = 0; w <= 3; w++) due("span(" + ij + ", " + w + ")", x.span(i, j, w), y.span(i, j, w));
        for (int w = 0; w <= 1; w++) {
            for (int k = 0; k <= 4; k++) due("hands(" + ij + ", " + w + ", " + k + ")", x.hands(i, j, w, k), y.hands(i, j, w, k));
        }
        for (int e = 1; e <= 8; e *= 2) {
            for (int v = 0; v <= 7; v++) due("live(" + ij + ", " + e + ", " + v + ")", x.live(i, j, e, v), y.live(i, j, e, v));
        }
        long n = due("alike(" + ij + ", 0, 0)", x.alike(i, j, 0, 0), y.alike(i, j, 0, 0));
        for (int k = 0; k <= n; k++) due("alike(" + ij + ", 1, " + k + ")", x.alike(i, j, 1, k), y.alike(i, j, 1, k));
        for (int k = 0; k <= 7; k++) due("alike(" + ij + ", 2, " + k + ")", x.alike(i, j, 2, k), y.alike(i, j, 2, k));
    }

    private void methods() {
        for (int m = 0; m <= 3; m++) {
            for (int w = 0; w <= 5; w++) due("method(" + m + ", " + w + ")", x.method(m, w), y.method(m, w));
            for (int k = 0; k <= 4; k++) {
                due("formal(" + m + ", 0, " + k + ")", x.formal(m, 0, k), y.formal(m, 0, k));
                due("formal(" + m + ", 1, " + k + ")", x.formal(m, 1, k), y.formal(m, 1, k));
            }
        }
    }

    private static final int[] VALUES = {0, 1, 2, 3, 5, 9, -1, -7, 100, Integer.MAX_VALUE, Integer.MIN_VALUE};

    /** Answers all that a run shows but its variables. */
    private String run(int a, int b) {
        long n = due("runs(" + a + ", " + b + ")", x.runs(a, b), y.runs(a, b));
        StringBuilder s = new StringBuilder().append(n);
        for (int w = 0; w <= 4; w++) due("ran(" + w + ", 0)", x.ran(w, 0), y.ran(w, 0));
        for (int k = 0; k <= y.ranPrints.size(); k++) due("ran(3, " + k + ")", x.ran(3, k), y.ran(3, k));
        return s.append(' ').append(y.ranValue).append(' ').append(y.ranSteps).append(y.ranPrints).toString();
    }

    private String runs() {
        StringBuilder s = new StringBuilder();
        for (int n = 0; n < 6; n++) s.append(run(VALUES[n * 5 % 11], VALUES[n * 7 % 11])).append('\n');
        return s.toString();
    }

    private int anyInt() {
        return programs.chance(90) ? programs.below(14) - 3 : programs.chance(50) ? VALUES[programs.below(11)] : programs.below(1 << 30);
    }

    private void wrongCalls() {
        int a = anyInt(), b = anyInt(), c = anyInt(), d = anyInt();
        due("span", x.span(a, b, c), y.span(a, b, c));
        due("hands", x.hands(a, b, c, d), y.hands(a, b, c, d));
        due("live", x.live(a, b, c, d), y.live(a, b, c, d));
        due("sure", x.sure(a, b), y.sure(a, b));
        due("alike", x.alike(a, b, c, d), y.alike(a, b, c, d));
        due("statement", x.statement(a, b), y.statement(a, b));
        due("sign", x.sign(a, b), y.sign(a, b));
        due("method", x.method(a, b), y.method(a, b));
        due("formal", x.formal(a, b, c), y.formal(a, b, c));
        due("ran", x.ran(a, b), y.ran(a, b));
        due("told", x.told(a), y.told(a));
    }

    /** Extracts; what a run shows must stay. */
    private void change() {
        int n = y.places().size();
        int kind = programs.below(10);
        if (kind < 7 && n > 0) {
            int i = programs.below(n), j = Math.min(n - 1, i + programs.below(4)), all = programs.chance(70) ? 1 : 0;
            String before = runs();
            long calls = due("lifts(" + i + ", " + j + ", " + all + ")", x.lifts(i, j, all), y.lifts(i, j, all));
            if (calls > 0) lifted++;
            if (calls > 1) twinned++;
            same(before);
        } else if (kind < 9) {
            String before = runs();
            int m = programs.below(4) - (programs.chance(20) ? 1 : 0);
            if (due("settles(" + m + ")", x.settles(m), y.settles(m)) > 0) settled++;
            same(before);
        } else {
            due("back()", x.back(), y.back());
        }
    }

    private void same(String before) {
        if (!runs().equals(before) && wrong++ < 5) System.out.println("seed " + seed + ": runs differ\n" + log);
    }

    private void round() {
        for (int part = 0; part < 2; part++) {
            take(programs.text());
            statements();
            for (int turn = 0; turn < 8; turn++) {
                int n = y.places().size();
                for (int t = 0; t < 5 && n > 0; t++) {
                    int i = programs.below(n);
                    oneSpan(i, Math.min(n - 1, i + programs.below(5)));
                }
                wrongCalls();
                change();
                methods();
                due("digest()", x.digest(), y.digest());
            }
            statements();
            for (int w = 0; w <= 6; w++) due("told(" + w + ")", x.told(w), y.told(w));
        }
    }

    public static void main(String[] args) {
        int rounds = args.length > 0 ? Integer.parseInt(args[0]) : ROUNDS;
        long start = args.length > 1 ? Long.parseLong(args[1]) : 1;
        for (long seed = start; seed < start + rounds; seed++) new ModelTest(seed).round();
        System.out.println(checked + " answers compared, " + lifted + " extractions, " + twinned + " of them with spans alike, " + settled + " inlinings");
        System.out.println(wrong == 0 ? "all answers are as due" : wrong + " answers are not as due");
        if (wrong != 0 || lifted < rounds / 4 || twinned < rounds / 20 || settled < rounds / 20) System.exit(1);
    }
}
